theorem d_N_dropLeadingZeros_0 : decode c_N_dropLeadingZeros 0 = .ok (.aload_n 0, 1) := by decide +kernel
theorem d_N_dropLeadingZeros_1 : decode c_N_dropLeadingZeros 1 = .ok (.getfield 13, 3) := by decide +kernel
theorem d_N_dropLeadingZeros_4 : decode c_N_dropLeadingZeros 4 = .ok (.ifCond .le 30, 3) := by decide +kernel
theorem d_N_dropLeadingZeros_7 : decode c_N_dropLeadingZeros 7 = .ok (.aload_n 0, 1) := by decide +kernel
theorem d_N_dropLeadingZeros_8 : decode c_N_dropLeadingZeros 8 = .ok (.getfield 9, 3) := by decide +kernel
theorem d_N_dropLeadingZeros_11 : decode c_N_dropLeadingZeros 11 = .ok (.aload_n 0, 1) := by decide +kernel
theorem d_N_dropLeadingZeros_12 : decode c_N_dropLeadingZeros 12 = .ok (.getfield 13, 3) := by decide +kernel
theorem d_N_dropLeadingZeros_15 : decode c_N_dropLeadingZeros 15 = .ok (.iconst 1, 1) := by decide +kernel
theorem d_N_dropLeadingZeros_16 : decode c_N_dropLeadingZeros 16 = .ok (.isub, 1) := by decide +kernel
theorem d_N_dropLeadingZeros_17 : decode c_N_dropLeadingZeros 17 = .ok (.iaload, 1) := by decide +kernel
theorem d_N_dropLeadingZeros_18 : decode c_N_dropLeadingZeros 18 = .ok (.ifCond .ne 16, 3) := by decide +kernel
theorem d_N_dropLeadingZeros_21 : decode c_N_dropLeadingZeros 21 = .ok (.aload_n 0, 1) := by decide +kernel
theorem d_N_dropLeadingZeros_22 : decode c_N_dropLeadingZeros 22 = .ok (.dup, 1) := by decide +kernel
theorem d_N_dropLeadingZeros_23 : decode c_N_dropLeadingZeros 23 = .ok (.getfield 13, 3) := by decide +kernel
theorem d_N_dropLeadingZeros_26 : decode c_N_dropLeadingZeros 26 = .ok (.iconst 1, 1) := by decide +kernel
theorem d_N_dropLeadingZeros_27 : decode c_N_dropLeadingZeros 27 = .ok (.isub, 1) := by decide +kernel
theorem d_N_dropLeadingZeros_28 : decode c_N_dropLeadingZeros 28 = .ok (.putfield 13, 3) := by decide +kernel
theorem d_N_dropLeadingZeros_31 : decode c_N_dropLeadingZeros 31 = .ok (.goto (-31), 3) := by decide +kernel
theorem d_N_dropLeadingZeros_34 : decode c_N_dropLeadingZeros 34 = .ok (.return_, 1) := by decide +kernel
set_option maxHeartbeats 4000000 in
set_option maxRecDepth 100000 in
theorem k_N_dropLeadingZeros (κ : zC) (X : zXT) (hX : zX κ X) (l : Launch) (a_t a_t_limbs : Nat) (sz : Nat) (t_used : Int32) (t_limbs : Nat → Int32) (out : (Int32)) (hf : f_N_dropLeadingZeros t_used t_limbs = some out) : zMet κ X l y_N_dropLeadingZeros c_N_dropLeadingZeros 1 none 0 0 [.ref a_t] sz [(a_t, .inr (2, [.ref a_t_limbs, .int t_used])), (a_t_limbs, .inl (κ.2.1, 48, .inl t_limbs))] (zQv κ (fun (u : (Int32)) => u = out) (fun u => [(a_t, .inr (2, [.ref a_t_limbs, .int u])), (a_t_limbs, .inl (κ.2.1, 48, .inl t_limbs))])) := by
  refine zMet.ofV (by decide +kernel) (Nat.le_of_ble_eq_true rfl) ?_
  intro p e s m args below meth c ls A Q hF hK hP hD hA hXs hS hl hret
  obtain ⟨hx, hb, hml, hown, hts⟩ := id hF
  obtain ⟨H, hH⟩ : ∃ H, H = s.heap := ⟨_, rfl⟩
  obtain ⟨locs, hlo⟩ : ∃ z : List Loc, z = [] := ⟨_, rfl⟩
  replace hP : zP κ [(a_t, .inr (2, [.ref a_t_limbs, .int t_used])), (a_t_limbs, .inl (κ.2.1, 48, .inl t_limbs))] H := by rw [hH]; exact hP
  replace hS : va_S A s.heap H locs := by rw [hH, hlo]; exact hS
  suffices hgo : W p l e (zR 0 0) s m args below meth c H locs 0 0 Q (F0 m 0 ls []) by rw [hH, hlo] at hgo; exact hgo
  clear hH hlo
  replace hl : lv_has ls 1 [(0, .ref a_t)] := hl
  have b_0 : ∀ (t_used : Int32) (H : Heap) (locs : List Loc) (ls : Array Slot), f_N_dropLeadingZeros_0 t_used t_limbs = some out → zP κ [(a_t, .inr (2, [.ref a_t_limbs, .int t_used])), (a_t_limbs, .inl (κ.2.1, 48, .inl t_limbs))] H → va_D A [(a_t, .inr (2, [.ref a_t_limbs, .int t_used])), (a_t_limbs, .inl (κ.2.1, 48, .inl t_limbs))] → va_S A s.heap H locs → lv_has ls 1 [(0, .ref a_t)] → W p l e (zR 0 0) s m args below meth c H locs 0 0 Q (F0 m 0 ls []) := by
    intro t_used H locs ls hf hP hD hS hl
    refine zrun_ind (P := fun z : (Int32) => ∀ (H : Heap) (locs : List Loc) (ls : Array Slot), zP κ [(a_t, .inr (2, [.ref a_t_limbs, .int z])), (a_t_limbs, .inl (κ.2.1, 48, .inl t_limbs))] H → va_D A [(a_t, .inr (2, [.ref a_t_limbs, .int z])), (a_t_limbs, .inl (κ.2.1, 48, .inl t_limbs))] → va_S A s.heap H locs → lv_has ls 1 [(0, .ref a_t)] → W p l e (zR 0 0) s m args below meth c H locs 0 0 Q (F0 m 0 ls [])) ?_ hf H locs ls hP hD hS hl
    clear hf hP hD hS hl H locs ls t_used
    intro z ih hne hexit_0 H locs ls hP hD hS hl
    obtain ⟨q_0, hf⟩ := zne hne
    have hback_0 := fun y (e : q_0 = .inl y) => ih y (e ▸ hf)
    replace hexit_0 := fun y (e : q_0 = .inr y) => hexit_0 y (e ▸ hf)
    clear ih hne
    obtain ⟨t_used, rfl⟩ : ∃ w, w = z := ⟨_, rfl⟩
    replace hf : f_N_dropLeadingZeros_0_body t_limbs t_used = some q_0 := hf
    replace hP : zP κ [(a_t, .inr (2, [.ref a_t_limbs, .int t_used])), (a_t_limbs, .inl (κ.2.1, 48, .inl t_limbs))] H := hP
    replace hD : va_D A [(a_t, .inr (2, [.ref a_t_limbs, .int t_used])), (a_t_limbs, .inl (κ.2.1, 48, .inl t_limbs))] := hD
    replace hl : lv_has ls 1 [(0, .ref a_t)] := hl
    unfold f_N_dropLeadingZeros_0_body at hf
    refine lv_aload_n hx hb d_N_dropLeadingZeros_0 rfl (lv_at hl 0 rfl) ?_
    refine va_get (C := R_N) (T := F_N) (N := 2) hx hb hts i_N hown hK hP 0 rfl rfl 1 (by decide) (hts _ zfl_N_13) (fun _ h9 => h9) rfl d_N_dropLeadingZeros_1 ?_
    refine lv_if_le (tgt := 34) hx hb d_N_dropLeadingZeros_4 (by decide) (fun c_4 => ?_) (fun c_4 => ?_)
    · have hf := (zbr hf).1 c_4
      have hf := zex hf hexit_0
      exact hret (t_used) H locs ls _ d_N_dropLeadingZeros_34 hP hD hS (Option.some.inj hf)
    · have hf := (zbr hf).2 c_4
      refine lv_aload_n hx hb d_N_dropLeadingZeros_7 rfl (lv_at hl 0 rfl) ?_
      refine va_get (C := R_N) (T := F_N) (N := 2) hx hb hts i_N hown hK hP 0 rfl rfl 0 (by decide) (hts _ zfl_N_9) (fun _ h9 => h9) rfl d_N_dropLeadingZeros_8 ?_
      refine lv_aload_n hx hb d_N_dropLeadingZeros_11 rfl (lv_at hl 0 rfl) ?_
      refine va_get (C := R_N) (T := F_N) (N := 2) hx hb hts i_N hown hK hP 0 rfl rfl 1 (by decide) (hts _ zfl_N_13) (fun _ h9 => h9) rfl d_N_dropLeadingZeros_12 ?_
      refine lv_iconst (v := 1) hx hb d_N_dropLeadingZeros_15 (by decide) ?_
      refine lv_isub hx hb d_N_dropLeadingZeros_16 ?_
      obtain ⟨g_17, hf⟩ := zgd hf
      refine va_iald hx hb hK hP 1 0 rfl rfl (zin_vp g_17) d_N_dropLeadingZeros_17 ?_
      refine lv_if_ne (tgt := 34) hx hb d_N_dropLeadingZeros_18 (by decide) (fun c_18 => ?_) (fun c_18 => ?_)
      · have hf := (zbr hf).2 c_18
        have hf := zex hf hexit_0
        exact hret (t_used) H locs ls _ d_N_dropLeadingZeros_34 hP hD hS (Option.some.inj hf)
      · have hf := (zbr hf).1 c_18
        refine lv_aload_n hx hb d_N_dropLeadingZeros_21 rfl (lv_at hl 0 rfl) ?_
        refine lv_dup hx hb d_N_dropLeadingZeros_22 rfl ?_
        refine va_get (C := R_N) (T := F_N) (N := 2) hx hb hts i_N hown hK hP 0 rfl rfl 1 (by decide) (hts _ zfl_N_13) (fun _ h9 => h9) rfl d_N_dropLeadingZeros_23 ?_
        refine lv_iconst (v := 1) hx hb d_N_dropLeadingZeros_26 (by decide) ?_
        refine lv_isub hx hb d_N_dropLeadingZeros_27 ?_
        refine va_put (C := R_N) (T := F_N) (N := 2) hx hb hts i_N ty_N ty_N_ok n_N hown hK hP hD hS 0 rfl rfl 1 (by decide) (hts _ zfl_N_13) (fun _ h9 => h9) rfl (ty_N_ok 1 (by decide)) rfl rfl (Nat.le_of_ble_eq_true rfl) d_N_dropLeadingZeros_28 (fun H locs hP hD hS => ?_)
        have hP : zP κ [(a_t, .inr (2, [.ref a_t_limbs, .int (t_used - 1)])), (a_t_limbs, .inl (κ.2.1, 48, .inl t_limbs))] H := hP
        have hD : va_D A [(a_t, .inr (2, [.ref a_t_limbs, .int (t_used - 1)])), (a_t_limbs, .inl (κ.2.1, 48, .inl t_limbs))] := hD
        refine lv_goto (tgt := 0) hx hb d_N_dropLeadingZeros_31 (by decide) ?_
        exact hback_0 _ (Option.some.inj hf).symm H locs ls hP hD hS hl
  unfold f_N_dropLeadingZeros at hf
  exact b_0 t_used H locs ls hf hP hD hS hl
theorem d_N_set_0 : decode c_N_set 0 = .ok (.iconst 0, 1) := by decide +kernel
theorem d_N_set_1 : decode c_N_set 1 = .ok (.istore_n 3, 1) := by decide +kernel
theorem d_N_set_2 : decode c_N_set 2 = .ok (.iload_n 3, 1) := by decide +kernel
theorem d_N_set_3 : decode c_N_set 3 = .ok (.iconst 3, 1) := by decide +kernel
theorem d_N_set_4 : decode c_N_set 4 = .ok (.if_icmp .ge 25, 3) := by decide +kernel
theorem d_N_set_7 : decode c_N_set 7 = .ok (.aload_n 0, 1) := by decide +kernel
theorem d_N_set_8 : decode c_N_set 8 = .ok (.getfield 9, 3) := by decide +kernel
theorem d_N_set_11 : decode c_N_set 11 = .ok (.iload_n 3, 1) := by decide +kernel
theorem d_N_set_12 : decode c_N_set 12 = .ok (.lload_n 1, 1) := by decide +kernel
theorem d_N_set_13 : decode c_N_set 13 = .ok (.bipush 30, 2) := by decide +kernel
theorem d_N_set_15 : decode c_N_set 15 = .ok (.iload_n 3, 1) := by decide +kernel
theorem d_N_set_16 : decode c_N_set 16 = .ok (.imul, 1) := by decide +kernel
theorem d_N_set_17 : decode c_N_set 17 = .ok (.lushr, 1) := by decide +kernel
theorem d_N_set_18 : decode c_N_set 18 = .ok (.l2i, 1) := by decide +kernel
theorem d_N_set_19 : decode c_N_set 19 = .ok (.ldc 17, 2) := by decide +kernel
theorem d_N_set_21 : decode c_N_set 21 = .ok (.iand, 1) := by decide +kernel
theorem d_N_set_22 : decode c_N_set 22 = .ok (.iastore, 1) := by decide +kernel
theorem d_N_set_23 : decode c_N_set 23 = .ok (.iinc 3 1, 3) := by decide +kernel
theorem d_N_set_26 : decode c_N_set 26 = .ok (.goto (-24), 3) := by decide +kernel
theorem d_N_set_29 : decode c_N_set 29 = .ok (.aload_n 0, 1) := by decide +kernel
theorem d_N_set_30 : decode c_N_set 30 = .ok (.iconst 3, 1) := by decide +kernel
theorem d_N_set_31 : decode c_N_set 31 = .ok (.putfield 13, 3) := by decide +kernel
theorem d_N_set_34 : decode c_N_set 34 = .ok (.aload_n 0, 1) := by decide +kernel
theorem d_N_set_35 : decode c_N_set 35 = .ok (.invokevirtual 18, 3) := by decide +kernel
theorem d_N_set_38 : decode c_N_set 38 = .ok (.return_, 1) := by decide +kernel
theorem zn_N_18 : zNV R_N 18 y_N_dropLeadingZeros c_N_dropLeadingZeros 1 none 0 := ⟨zco_N_dropLeadingZeros, zin_N, zml_N_18, zim_N_dropLeadingZeros, zse_N_N_dropLeadingZeros, by decide +kernel⟩
set_option maxHeartbeats 4000000 in
set_option maxRecDepth 100000 in
theorem k_N_set (κ : zC) (X : zXT) (hX : zX κ X) (l : Launch) (a_t a_t_limbs : Nat) (sz : Nat) (t_used : Int32) (t_limbs : Nat → Int32) (x1 : Int64) (out : (Int32) × (Nat → Int32)) (hf : f_N_set t_used t_limbs x1 = some out) : zMet κ X l y_N_set c_N_set 4 none 1 20 [.ref a_t, .long x1] sz [(a_t, .inr (2, [.ref a_t_limbs, .int t_used])), (a_t_limbs, .inl (κ.2.1, 48, .inl t_limbs))] (zQv κ (fun (u : (Int32) × (Nat → Int32)) => u = out) (fun u => [(a_t, .inr (2, [.ref a_t_limbs, .int u.1])), (a_t_limbs, .inl (κ.2.1, 48, .inl u.2))])) := by
  refine zMet.ofV (by decide +kernel) (Nat.le_of_ble_eq_true rfl) ?_
  intro p e s m args below meth c ls A Q hF hK hP hD hA hXs hS hl hret
  obtain ⟨hx, hb, hml, hown, hts⟩ := id hF
  obtain ⟨H, hH⟩ : ∃ H, H = s.heap := ⟨_, rfl⟩
  obtain ⟨locs, hlo⟩ : ∃ z : List Loc, z = [] := ⟨_, rfl⟩
  replace hP : zP κ [(a_t, .inr (2, [.ref a_t_limbs, .int t_used])), (a_t_limbs, .inl (κ.2.1, 48, .inl t_limbs))] H := by rw [hH]; exact hP
  replace hS : va_S A s.heap H locs := by rw [hH, hlo]; exact hS
  suffices hgo : W p l e (zR 1 20) s m args below meth c H locs 0 0 Q (F0 m 0 ls []) by rw [hH, hlo] at hgo; exact hgo
  clear hH hlo
  replace hl : lv_has ls 4 [(0, .ref a_t), (1, .long x1)] := hl
  have b_29 : ∀ (t_used : Int32) (t_limbs : Nat → Int32) (H : Heap) (locs : List Loc) (ls : Array Slot), f_N_set_29 t_used t_limbs = some out → zP κ [(a_t, .inr (2, [.ref a_t_limbs, .int t_used])), (a_t_limbs, .inl (κ.2.1, 48, .inl t_limbs))] H → va_D A [(a_t, .inr (2, [.ref a_t_limbs, .int t_used])), (a_t_limbs, .inl (κ.2.1, 48, .inl t_limbs))] → va_S A s.heap H locs → lv_has ls 4 [(0, .ref a_t)] → W p l e (zR 1 20) s m args below meth c H locs 0 0 Q (F0 m 29 ls []) := by
    intro t_used t_limbs H locs ls hf hP hD hS hl
    unfold f_N_set_29 at hf
    refine lv_aload_n hx hb d_N_set_29 rfl (lv_at hl 0 rfl) ?_
    refine lv_iconst (v := 3) hx hb d_N_set_30 (by decide) ?_
    refine va_put (C := R_N) (T := F_N) (N := 2) hx hb hts i_N ty_N ty_N_ok n_N hown hK hP hD hS 0 rfl rfl 1 (by decide) (hts _ zfl_N_13) (fun _ h9 => h9) rfl (ty_N_ok 1 (by decide)) rfl rfl (Nat.le_of_ble_eq_true rfl) d_N_set_31 (fun H locs hP hD hS => ?_)
    have hP : zP κ [(a_t, .inr (2, [.ref a_t_limbs, .int 3])), (a_t_limbs, .inl (κ.2.1, 48, .inl t_limbs))] H := hP
    have hD : va_D A [(a_t, .inr (2, [.ref a_t_limbs, .int 3])), (a_t_limbs, .inl (κ.2.1, 48, .inl t_limbs))] := hD
    refine lv_aload_n hx hb d_N_set_34 rfl (lv_at hl 0 rfl) ?_
    obtain ⟨o_35, ho_35, hf⟩ := zbd hf
    refine zVv (isC := [0, 1]) (isR := []) (isN := [0, 1]) (wc := [(a_t, .inr (2, [.ref a_t_limbs, .int 3])), (a_t_limbs, .inl (κ.2.1, 48, .inl t_limbs))]) (wr := []) (wn := fun u => [(a_t, .inr (2, [.ref a_t_limbs, .int u])), (a_t_limbs, .inl (κ.2.1, 48, .inl t_limbs))]) (rest := []) (As := []) hF zn_N_18 (k_N_dropLeadingZeros κ X hX l a_t a_t_limbs H.size 3 t_limbs o_35 ho_35) hX hXs hK hA hP hD hS ⟨by decide, by decide⟩ ⟨rfl, rfl, rfl, rfl, rfl, by decide⟩ ⟨rfl, fun _ => rfl, fun _ => rfl⟩ (ci := 2) rfl rfl rfl rfl hl.1 rfl (Nat.le_of_ble_eq_true rfl) ⟨Nat.zero_le _, Nat.zero_le _⟩ d_N_set_35 (fun u H locs hw hP hD hS => ?_)
    obtain ⟨u35_t_used, rfl⟩ : ∃ z, z = u := ⟨_, rfl⟩
    have hP : zP κ [(a_t, .inr (2, [.ref a_t_limbs, .int u35_t_used])), (a_t_limbs, .inl (κ.2.1, 48, .inl t_limbs))] H := hP
    have hD : va_D A [(a_t, .inr (2, [.ref a_t_limbs, .int u35_t_used])), (a_t_limbs, .inl (κ.2.1, 48, .inl t_limbs))] := hD
    subst hw
    exact hret ((u35_t_used, t_limbs)) H locs ls _ d_N_set_38 hP hD hS (Option.some.inj hf)
  have b_2 : ∀ (t_used : Int32) (t_limbs : Nat → Int32) (x1 : Int64) (x3 : Int32) (H : Heap) (locs : List Loc) (ls : Array Slot), f_N_set_2 t_used t_limbs x1 x3 = some out → zP κ [(a_t, .inr (2, [.ref a_t_limbs, .int t_used])), (a_t_limbs, .inl (κ.2.1, 48, .inl t_limbs))] H → va_D A [(a_t, .inr (2, [.ref a_t_limbs, .int t_used])), (a_t_limbs, .inl (κ.2.1, 48, .inl t_limbs))] → va_S A s.heap H locs → lv_has ls 4 [(0, .ref a_t), (1, .long x1), (3, .int x3)] → W p l e (zR 1 20) s m args below meth c H locs 0 0 Q (F0 m 2 ls []) := by
    intro t_used t_limbs x1 x3 H locs ls hf hP hD hS hl
    refine zrun_ind (P := fun z : (Int32) × (Nat → Int32) × (Int32) => ∀ (H : Heap) (locs : List Loc) (ls : Array Slot), zP κ [(a_t, .inr (2, [.ref a_t_limbs, .int z.1])), (a_t_limbs, .inl (κ.2.1, 48, .inl z.2.1))] H → va_D A [(a_t, .inr (2, [.ref a_t_limbs, .int z.1])), (a_t_limbs, .inl (κ.2.1, 48, .inl z.2.1))] → va_S A s.heap H locs → lv_has ls 4 [(0, .ref a_t), (1, .long x1), (3, .int z.2.2)] → W p l e (zR 1 20) s m args below meth c H locs 0 0 Q (F0 m 2 ls [])) ?_ hf H locs ls hP hD hS hl
    clear hf hP hD hS hl H locs ls t_used t_limbs x3
    intro z ih hne hexit_2 H locs ls hP hD hS hl
    obtain ⟨q_2, hf⟩ := zne hne
    have hback_2 := fun y (e : q_2 = .inl y) => ih y (e ▸ hf)
    replace hexit_2 := fun y (e : q_2 = .inr y) => hexit_2 y (e ▸ hf)
    clear ih hne
    obtain ⟨t_used, t_limbs, x3⟩ := z
    replace hf : f_N_set_2_body x1 t_used t_limbs x3 = some q_2 := hf
    replace hP : zP κ [(a_t, .inr (2, [.ref a_t_limbs, .int t_used])), (a_t_limbs, .inl (κ.2.1, 48, .inl t_limbs))] H := hP
    replace hD : va_D A [(a_t, .inr (2, [.ref a_t_limbs, .int t_used])), (a_t_limbs, .inl (κ.2.1, 48, .inl t_limbs))] := hD
    replace hl : lv_has ls 4 [(0, .ref a_t), (1, .long x1), (3, .int x3)] := hl
    unfold f_N_set_2_body at hf
    refine lv_iload_n hx hb d_N_set_2 rfl (lv_at hl 2 rfl) ?_
    refine lv_iconst (v := 3) hx hb d_N_set_3 (by decide) ?_
    refine lv_icmp_ge (tgt := 29) hx hb d_N_set_4 (by decide) (fun c_4 => ?_) (fun c_4 => ?_)
    · have hf := (zbr hf).1 c_4
      have hf := zex hf hexit_2
      exact b_29 t_used t_limbs H locs ls hf hP hD hS (lv_sub hl [0] rfl)
    · have hf := (zbr hf).2 c_4
      refine lv_aload_n hx hb d_N_set_7 rfl (lv_at hl 0 rfl) ?_
      refine va_get (C := R_N) (T := F_N) (N := 2) hx hb hts i_N hown hK hP 0 rfl rfl 0 (by decide) (hts _ zfl_N_9) (fun _ h9 => h9) rfl d_N_set_8 ?_
      refine lv_iload_n hx hb d_N_set_11 rfl (lv_at hl 2 rfl) ?_
      refine lv_lload_n hx hb d_N_set_12 rfl (lv_at hl 1 rfl) ?_
      refine lv_bipush (v := 30) hx hb d_N_set_13 (by decide) ?_
      refine lv_iload_n hx hb d_N_set_15 rfl (lv_at hl 2 rfl) ?_
      refine lv_imul hx hb d_N_set_16 ?_
      refine lv_lushr (v := (jlushr x1 (30 * x3))) hx hb d_N_set_17 rfl ?_
      refine lv_l2i hx hb d_N_set_18 rfl ?_
      refine lv_ldc (v := 1073741823) hx hb hown (hts _ zki_N_17) d_N_set_19 ?_
      refine lv_iand hx hb d_N_set_21 ?_
      obtain ⟨g_22, hf⟩ := zgd hf
      refine va_iast hx hb hK hP hD hS 1 0 rfl rfl (zin_vp g_22) d_N_set_22 (fun H locs hP hD hS => ?_)
      have hP : zP κ [(a_t, .inr (2, [.ref a_t_limbs, .int t_used])), (a_t_limbs, .inl (κ.2.1, 48, .inl (upd t_limbs x3.toNatClampNeg (((jlushr x1 (30 * x3))).toInt32 &&& 1073741823))))] H := hP
      have hD : va_D A [(a_t, .inr (2, [.ref a_t_limbs, .int t_used])), (a_t_limbs, .inl (κ.2.1, 48, .inl (upd t_limbs x3.toNatClampNeg (((jlushr x1 (30 * x3))).toInt32 &&& 1073741823))))] := hD
      refine lv_iinc (v := (x3 + 1)) (lv' := [(3, .int (x3 + 1)), (0, .ref a_t), (1, .long x1)]) hx hb d_N_set_23 hl (k := 2) rfl rfl (by decide) rfl (fun ls hl => ?_)
      refine lv_goto (tgt := 2) hx hb d_N_set_26 (by decide) ?_
      exact hback_2 _ (Option.some.inj hf).symm H locs ls hP hD hS (lv_sub hl [1, 2, 0] rfl)
  unfold f_N_set at hf
  refine lv_iconst (v := 0) hx hb d_N_set_0 (by decide) ?_
  refine lv_istore_n (lv' := [(3, .int 0), (0, .ref a_t), (1, .long x1)]) hx hb d_N_set_1 rfl hl (by decide) rfl (fun ls hl => ?_)
  exact b_2 t_used t_limbs x1 0 H locs ls hf hP hD hS (lv_sub hl [1, 2, 0] rfl)
theorem d_N_copy_0 : decode c_N_copy 0 = .ok (.aload_n 0, 1) := by decide +kernel
theorem d_N_copy_1 : decode c_N_copy 1 = .ok (.aload_n 1, 1) := by decide +kernel
theorem d_N_copy_2 : decode c_N_copy 2 = .ok (.getfield 13, 3) := by decide +kernel
theorem d_N_copy_5 : decode c_N_copy 5 = .ok (.putfield 13, 3) := by decide +kernel
theorem d_N_copy_8 : decode c_N_copy 8 = .ok (.iconst 0, 1) := by decide +kernel
theorem d_N_copy_9 : decode c_N_copy 9 = .ok (.istore_n 2, 1) := by decide +kernel
theorem d_N_copy_10 : decode c_N_copy 10 = .ok (.iload_n 2, 1) := by decide +kernel
theorem d_N_copy_11 : decode c_N_copy 11 = .ok (.aload_n 0, 1) := by decide +kernel
theorem d_N_copy_12 : decode c_N_copy 12 = .ok (.getfield 13, 3) := by decide +kernel
theorem d_N_copy_15 : decode c_N_copy 15 = .ok (.if_icmp .ge 21, 3) := by decide +kernel
theorem d_N_copy_18 : decode c_N_copy 18 = .ok (.aload_n 0, 1) := by decide +kernel
theorem d_N_copy_19 : decode c_N_copy 19 = .ok (.getfield 9, 3) := by decide +kernel
theorem d_N_copy_22 : decode c_N_copy 22 = .ok (.iload_n 2, 1) := by decide +kernel
theorem d_N_copy_23 : decode c_N_copy 23 = .ok (.aload_n 1, 1) := by decide +kernel
theorem d_N_copy_24 : decode c_N_copy 24 = .ok (.getfield 9, 3) := by decide +kernel
theorem d_N_copy_27 : decode c_N_copy 27 = .ok (.iload_n 2, 1) := by decide +kernel
theorem d_N_copy_28 : decode c_N_copy 28 = .ok (.iaload, 1) := by decide +kernel
theorem d_N_copy_29 : decode c_N_copy 29 = .ok (.iastore, 1) := by decide +kernel
theorem d_N_copy_30 : decode c_N_copy 30 = .ok (.iinc 2 1, 3) := by decide +kernel
theorem d_N_copy_33 : decode c_N_copy 33 = .ok (.goto (-23), 3) := by decide +kernel
theorem d_N_copy_36 : decode c_N_copy 36 = .ok (.return_, 1) := by decide +kernel
set_option maxHeartbeats 4000000 in
set_option maxRecDepth 100000 in
theorem k_N_copy (κ : zC) (X : zXT) (hX : zX κ X) (l : Launch) (a_t a_o a_t_limbs a_o_limbs : Nat) (sz : Nat) (t_used : Int32) (t_limbs : Nat → Int32) (o_used : Int32) (o_limbs : Nat → Int32) (out : (Int32) × (Nat → Int32)) (hf : f_N_copy t_used t_limbs o_used o_limbs = some out) : zMet κ X l y_N_copy c_N_copy 3 none 0 0 [.ref a_t, .ref a_o] sz [(a_t, .inr (2, [.ref a_t_limbs, .int t_used])), (a_t_limbs, .inl (κ.2.1, 48, .inl t_limbs)), (a_o, .inr (2, [.ref a_o_limbs, .int o_used])), (a_o_limbs, .inl (κ.2.1, 48, .inl o_limbs))] (zQv κ (fun (u : (Int32) × (Nat → Int32)) => u = out) (fun u => [(a_t, .inr (2, [.ref a_t_limbs, .int u.1])), (a_t_limbs, .inl (κ.2.1, 48, .inl u.2)), (a_o, .inr (2, [.ref a_o_limbs, .int o_used])), (a_o_limbs, .inl (κ.2.1, 48, .inl o_limbs))])) := by
  refine zMet.ofV (by decide +kernel) (Nat.le_of_ble_eq_true rfl) ?_
  intro p e s m args below meth c ls A Q hF hK hP hD hA hXs hS hl hret
  obtain ⟨hx, hb, hml, hown, hts⟩ := id hF
  obtain ⟨H, hH⟩ : ∃ H, H = s.heap := ⟨_, rfl⟩
  obtain ⟨locs, hlo⟩ : ∃ z : List Loc, z = [] := ⟨_, rfl⟩
  replace hP : zP κ [(a_t, .inr (2, [.ref a_t_limbs, .int t_used])), (a_t_limbs, .inl (κ.2.1, 48, .inl t_limbs)), (a_o, .inr (2, [.ref a_o_limbs, .int o_used])), (a_o_limbs, .inl (κ.2.1, 48, .inl o_limbs))] H := by rw [hH]; exact hP
  replace hS : va_S A s.heap H locs := by rw [hH, hlo]; exact hS
  suffices hgo : W p l e (zR 0 0) s m args below meth c H locs 0 0 Q (F0 m 0 ls []) by rw [hH, hlo] at hgo; exact hgo
  clear hH hlo
  replace hl : lv_has ls 3 [(0, .ref a_t), (1, .ref a_o)] := hl
  have b_10 : ∀ (t_used : Int32) (t_limbs : Nat → Int32) (x2 : Int32) (H : Heap) (locs : List Loc) (ls : Array Slot), f_N_copy_10 t_used t_limbs o_used o_limbs x2 = some out → zP κ [(a_t, .inr (2, [.ref a_t_limbs, .int t_used])), (a_t_limbs, .inl (κ.2.1, 48, .inl t_limbs)), (a_o, .inr (2, [.ref a_o_limbs, .int o_used])), (a_o_limbs, .inl (κ.2.1, 48, .inl o_limbs))] H → va_D A [(a_t, .inr (2, [.ref a_t_limbs, .int t_used])), (a_t_limbs, .inl (κ.2.1, 48, .inl t_limbs)), (a_o, .inr (2, [.ref a_o_limbs, .int o_used])), (a_o_limbs, .inl (κ.2.1, 48, .inl o_limbs))] → va_S A s.heap H locs → lv_has ls 3 [(0, .ref a_t), (1, .ref a_o), (2, .int x2)] → W p l e (zR 0 0) s m args below meth c H locs 0 0 Q (F0 m 10 ls []) := by
    intro t_used t_limbs x2 H locs ls hf hP hD hS hl
    refine zrun_ind (P := fun z : (Int32) × (Nat → Int32) × (Int32) => ∀ (H : Heap) (locs : List Loc) (ls : Array Slot), zP κ [(a_t, .inr (2, [.ref a_t_limbs, .int z.1])), (a_t_limbs, .inl (κ.2.1, 48, .inl z.2.1)), (a_o, .inr (2, [.ref a_o_limbs, .int o_used])), (a_o_limbs, .inl (κ.2.1, 48, .inl o_limbs))] H → va_D A [(a_t, .inr (2, [.ref a_t_limbs, .int z.1])), (a_t_limbs, .inl (κ.2.1, 48, .inl z.2.1)), (a_o, .inr (2, [.ref a_o_limbs, .int o_used])), (a_o_limbs, .inl (κ.2.1, 48, .inl o_limbs))] → va_S A s.heap H locs → lv_has ls 3 [(0, .ref a_t), (1, .ref a_o), (2, .int z.2.2)] → W p l e (zR 0 0) s m args below meth c H locs 0 0 Q (F0 m 10 ls [])) ?_ hf H locs ls hP hD hS hl
    clear hf hP hD hS hl H locs ls t_used t_limbs x2
    intro z ih hne hexit_10 H locs ls hP hD hS hl
    obtain ⟨q_10, hf⟩ := zne hne
    have hback_10 := fun y (e : q_10 = .inl y) => ih y (e ▸ hf)
    replace hexit_10 := fun y (e : q_10 = .inr y) => hexit_10 y (e ▸ hf)
    clear ih hne
    obtain ⟨t_used, t_limbs, x2⟩ := z
    replace hf : f_N_copy_10_body o_used o_limbs t_used t_limbs x2 = some q_10 := hf
    replace hP : zP κ [(a_t, .inr (2, [.ref a_t_limbs, .int t_used])), (a_t_limbs, .inl (κ.2.1, 48, .inl t_limbs)), (a_o, .inr (2, [.ref a_o_limbs, .int o_used])), (a_o_limbs, .inl (κ.2.1, 48, .inl o_limbs))] H := hP
    replace hD : va_D A [(a_t, .inr (2, [.ref a_t_limbs, .int t_used])), (a_t_limbs, .inl (κ.2.1, 48, .inl t_limbs)), (a_o, .inr (2, [.ref a_o_limbs, .int o_used])), (a_o_limbs, .inl (κ.2.1, 48, .inl o_limbs))] := hD
    replace hl : lv_has ls 3 [(0, .ref a_t), (1, .ref a_o), (2, .int x2)] := hl
    unfold f_N_copy_10_body at hf
    refine lv_iload_n hx hb d_N_copy_10 rfl (lv_at hl 2 rfl) ?_
    refine lv_aload_n hx hb d_N_copy_11 rfl (lv_at hl 0 rfl) ?_
    refine va_get (C := R_N) (T := F_N) (N := 2) hx hb hts i_N hown hK hP 0 rfl rfl 1 (by decide) (hts _ zfl_N_13) (fun _ h9 => h9) rfl d_N_copy_12 ?_
    refine lv_icmp_ge (tgt := 36) hx hb d_N_copy_15 (by decide) (fun c_15 => ?_) (fun c_15 => ?_)
    · have hf := (zbr hf).1 c_15
      have hf := zex hf hexit_10
      exact hret ((t_used, t_limbs)) H locs ls _ d_N_copy_36 hP hD hS (Option.some.inj hf)
    · have hf := (zbr hf).2 c_15
      refine lv_aload_n hx hb d_N_copy_18 rfl (lv_at hl 0 rfl) ?_
      refine va_get (C := R_N) (T := F_N) (N := 2) hx hb hts i_N hown hK hP 0 rfl rfl 0 (by decide) (hts _ zfl_N_9) (fun _ h9 => h9) rfl d_N_copy_19 ?_
      refine lv_iload_n hx hb d_N_copy_22 rfl (lv_at hl 2 rfl) ?_
      refine lv_aload_n hx hb d_N_copy_23 rfl (lv_at hl 1 rfl) ?_
      refine va_get (C := R_N) (T := F_N) (N := 2) hx hb hts i_N hown hK hP 2 rfl rfl 0 (by decide) (hts _ zfl_N_9) (fun _ h9 => h9) rfl d_N_copy_24 ?_
      refine lv_iload_n hx hb d_N_copy_27 rfl (lv_at hl 2 rfl) ?_
      obtain ⟨g_28, hf⟩ := zgd hf
      refine va_iald hx hb hK hP 3 0 rfl rfl (zin_vp g_28) d_N_copy_28 ?_
      obtain ⟨g_29, hf⟩ := zgd hf
      refine va_iast hx hb hK hP hD hS 1 0 rfl rfl (zin_vp g_29) d_N_copy_29 (fun H locs hP hD hS => ?_)
      have hP : zP κ [(a_t, .inr (2, [.ref a_t_limbs, .int t_used])), (a_t_limbs, .inl (κ.2.1, 48, .inl (upd t_limbs x2.toNatClampNeg (o_limbs x2.toNatClampNeg)))), (a_o, .inr (2, [.ref a_o_limbs, .int o_used])), (a_o_limbs, .inl (κ.2.1, 48, .inl o_limbs))] H := hP
      have hD : va_D A [(a_t, .inr (2, [.ref a_t_limbs, .int t_used])), (a_t_limbs, .inl (κ.2.1, 48, .inl (upd t_limbs x2.toNatClampNeg (o_limbs x2.toNatClampNeg)))), (a_o, .inr (2, [.ref a_o_limbs, .int o_used])), (a_o_limbs, .inl (κ.2.1, 48, .inl o_limbs))] := hD
      refine lv_iinc (v := (x2 + 1)) (lv' := [(2, .int (x2 + 1)), (0, .ref a_t), (1, .ref a_o)]) hx hb d_N_copy_30 hl (k := 2) rfl rfl (by decide) rfl (fun ls hl => ?_)
      refine lv_goto (tgt := 10) hx hb d_N_copy_33 (by decide) ?_
      exact hback_10 _ (Option.some.inj hf).symm H locs ls hP hD hS (lv_sub hl [1, 2, 0] rfl)
  unfold f_N_copy at hf
  refine lv_aload_n hx hb d_N_copy_0 rfl (lv_at hl 0 rfl) ?_
  refine lv_aload_n hx hb d_N_copy_1 rfl (lv_at hl 1 rfl) ?_
  refine va_get (C := R_N) (T := F_N) (N := 2) hx hb hts i_N hown hK hP 2 rfl rfl 1 (by decide) (hts _ zfl_N_13) (fun _ h9 => h9) rfl d_N_copy_2 ?_
  refine va_put (C := R_N) (T := F_N) (N := 2) hx hb hts i_N ty_N ty_N_ok n_N hown hK hP hD hS 0 rfl rfl 1 (by decide) (hts _ zfl_N_13) (fun _ h9 => h9) rfl (ty_N_ok 1 (by decide)) rfl rfl (Nat.le_of_ble_eq_true rfl) d_N_copy_5 (fun H locs hP hD hS => ?_)
  have hP : zP κ [(a_t, .inr (2, [.ref a_t_limbs, .int o_used])), (a_t_limbs, .inl (κ.2.1, 48, .inl t_limbs)), (a_o, .inr (2, [.ref a_o_limbs, .int o_used])), (a_o_limbs, .inl (κ.2.1, 48, .inl o_limbs))] H := hP
  have hD : va_D A [(a_t, .inr (2, [.ref a_t_limbs, .int o_used])), (a_t_limbs, .inl (κ.2.1, 48, .inl t_limbs)), (a_o, .inr (2, [.ref a_o_limbs, .int o_used])), (a_o_limbs, .inl (κ.2.1, 48, .inl o_limbs))] := hD
  refine lv_iconst (v := 0) hx hb d_N_copy_8 (by decide) ?_
  refine lv_istore_n (lv' := [(2, .int 0), (0, .ref a_t), (1, .ref a_o)]) hx hb d_N_copy_9 rfl hl (by decide) rfl (fun ls hl => ?_)
  exact b_10 o_used t_limbs 0 H locs ls hf hP hD hS (lv_sub hl [1, 2, 0] rfl)
theorem d_N_isZero_0 : decode c_N_isZero 0 = .ok (.aload_n 0, 1) := by decide +kernel
theorem d_N_isZero_1 : decode c_N_isZero 1 = .ok (.getfield 13, 3) := by decide +kernel
theorem d_N_isZero_4 : decode c_N_isZero 4 = .ok (.ifCond .ne 7, 3) := by decide +kernel
theorem d_N_isZero_7 : decode c_N_isZero 7 = .ok (.iconst 1, 1) := by decide +kernel
theorem d_N_isZero_8 : decode c_N_isZero 8 = .ok (.goto 4, 3) := by decide +kernel
theorem d_N_isZero_11 : decode c_N_isZero 11 = .ok (.iconst 0, 1) := by decide +kernel
theorem d_N_isZero_12 : decode c_N_isZero 12 = .ok (.ireturn, 1) := by decide +kernel
set_option maxHeartbeats 4000000 in
set_option maxRecDepth 100000 in
theorem k_N_isZero (κ : zC) (X : zXT) (hX : zX κ X) (l : Launch) (a_t a_t_limbs : Nat) (sz : Nat) (t_used : Int32) (out : Int32) (hf : f_N_isZero t_used = some out) : zMet κ X l y_N_isZero c_N_isZero 1 (some .boolean) 0 0 [.ref a_t] sz [(a_t, .inr (2, [.ref a_t_limbs, .int t_used]))] (zQi κ (fun (r : Int32) (_ : Unit) => r = out) (fun u => [(a_t, .inr (2, [.ref a_t_limbs, .int t_used]))])) := by
  refine zMet.ofZ (by decide +kernel) (Nat.le_of_ble_eq_true rfl) ?_
  intro p e s m args below meth c ls A Q hF hK hP hD hA hXs hS hl hret
  obtain ⟨hx, hb, hml, hown, hts⟩ := id hF
  obtain ⟨H, hH⟩ : ∃ H, H = s.heap := ⟨_, rfl⟩
  obtain ⟨locs, hlo⟩ : ∃ z : List Loc, z = [] := ⟨_, rfl⟩
  replace hP : zP κ [(a_t, .inr (2, [.ref a_t_limbs, .int t_used]))] H := by rw [hH]; exact hP
  replace hS : va_S A s.heap H locs := by rw [hH, hlo]; exact hS
  suffices hgo : W p l e (zR 0 0) s m args below meth c H locs 0 0 Q (F0 m 0 ls []) by rw [hH, hlo] at hgo; exact hgo
  clear hH hlo
  replace hl : lv_has ls 1 [(0, .ref a_t)] := hl
  unfold f_N_isZero at hf
  refine lv_aload_n hx hb d_N_isZero_0 rfl (lv_at hl 0 rfl) ?_
  refine va_get (C := R_N) (T := F_N) (N := 2) hx hb hts i_N hown hK hP 0 rfl rfl 1 (by decide) (hts _ zfl_N_13) (fun _ h9 => h9) rfl d_N_isZero_1 ?_
  refine lv_if_ne (tgt := 11) hx hb d_N_isZero_4 (by decide) (fun c_4 => ?_) (fun c_4 => ?_)
  · have hf := (zbr hf).2 c_4
    refine lv_iconst (v := 0) hx hb d_N_isZero_11 (by decide) ?_
    exact hret ((0 : Int32)) () H locs ls _ d_N_isZero_12 hP hD hS (by decide) (Option.some.inj hf)
  · have hf := (zbr hf).1 c_4
    refine lv_iconst (v := 1) hx hb d_N_isZero_7 (by decide) ?_
    refine lv_goto (tgt := 12) hx hb d_N_isZero_8 (by decide) ?_
    exact hret ((1 : Int32)) () H locs ls _ d_N_isZero_12 hP hD hS (by decide) (Option.some.inj hf)
theorem d_N_limbAt_0 : decode c_N_limbAt 0 = .ok (.iload_n 1, 1) := by decide +kernel
theorem d_N_limbAt_1 : decode c_N_limbAt 1 = .ok (.ifCond .lt 20, 3) := by decide +kernel
theorem d_N_limbAt_4 : decode c_N_limbAt 4 = .ok (.iload_n 1, 1) := by decide +kernel
theorem d_N_limbAt_5 : decode c_N_limbAt 5 = .ok (.aload_n 0, 1) := by decide +kernel
theorem d_N_limbAt_6 : decode c_N_limbAt 6 = .ok (.getfield 13, 3) := by decide +kernel
theorem d_N_limbAt_9 : decode c_N_limbAt 9 = .ok (.if_icmp .ge 12, 3) := by decide +kernel
theorem d_N_limbAt_12 : decode c_N_limbAt 12 = .ok (.aload_n 0, 1) := by decide +kernel
theorem d_N_limbAt_13 : decode c_N_limbAt 13 = .ok (.getfield 9, 3) := by decide +kernel
theorem d_N_limbAt_16 : decode c_N_limbAt 16 = .ok (.iload_n 1, 1) := by decide +kernel
theorem d_N_limbAt_17 : decode c_N_limbAt 17 = .ok (.iaload, 1) := by decide +kernel
theorem d_N_limbAt_18 : decode c_N_limbAt 18 = .ok (.goto 4, 3) := by decide +kernel
theorem d_N_limbAt_21 : decode c_N_limbAt 21 = .ok (.iconst 0, 1) := by decide +kernel
theorem d_N_limbAt_22 : decode c_N_limbAt 22 = .ok (.ireturn, 1) := by decide +kernel
set_option maxHeartbeats 4000000 in
set_option maxRecDepth 100000 in
theorem k_N_limbAt (κ : zC) (X : zXT) (hX : zX κ X) (l : Launch) (a_t a_t_limbs : Nat) (sz : Nat) (t_used : Int32) (t_limbs : Nat → Int32) (x1 : Int32) (out : Int32) (hf : f_N_limbAt t_used t_limbs x1 = some out) : zMet κ X l y_N_limbAt c_N_limbAt 2 (some .int) 0 0 [.ref a_t, .int x1] sz [(a_t, .inr (2, [.ref a_t_limbs, .int t_used])), (a_t_limbs, .inl (κ.2.1, 48, .inl t_limbs))] (zQi κ (fun (r : Int32) (_ : Unit) => r = out) (fun u => [(a_t, .inr (2, [.ref a_t_limbs, .int t_used])), (a_t_limbs, .inl (κ.2.1, 48, .inl t_limbs))])) := by
  refine zMet.ofI (by decide +kernel) (Nat.le_of_ble_eq_true rfl) ?_
  intro p e s m args below meth c ls A Q hF hK hP hD hA hXs hS hl hret
  obtain ⟨hx, hb, hml, hown, hts⟩ := id hF
  obtain ⟨H, hH⟩ : ∃ H, H = s.heap := ⟨_, rfl⟩
  obtain ⟨locs, hlo⟩ : ∃ z : List Loc, z = [] := ⟨_, rfl⟩
  replace hP : zP κ [(a_t, .inr (2, [.ref a_t_limbs, .int t_used])), (a_t_limbs, .inl (κ.2.1, 48, .inl t_limbs))] H := by rw [hH]; exact hP
  replace hS : va_S A s.heap H locs := by rw [hH, hlo]; exact hS
  suffices hgo : W p l e (zR 0 0) s m args below meth c H locs 0 0 Q (F0 m 0 ls []) by rw [hH, hlo] at hgo; exact hgo
  clear hH hlo
  replace hl : lv_has ls 2 [(0, .ref a_t), (1, .int x1)] := hl
  unfold f_N_limbAt at hf
  refine lv_iload_n hx hb d_N_limbAt_0 rfl (lv_at hl 1 rfl) ?_
  refine lv_if_lt (tgt := 21) hx hb d_N_limbAt_1 (by decide) (fun c_1 => ?_) (fun c_1 => ?_)
  · have hf := (zbr hf).1 c_1
    refine lv_iconst (v := 0) hx hb d_N_limbAt_21 (by decide) ?_
    exact hret ((0 : Int32)) () H locs ls _ d_N_limbAt_22 hP hD hS (Option.some.inj hf)
  · have hf := (zbr hf).2 c_1
    refine lv_iload_n hx hb d_N_limbAt_4 rfl (lv_at hl 1 rfl) ?_
    refine lv_aload_n hx hb d_N_limbAt_5 rfl (lv_at hl 0 rfl) ?_
    refine va_get (C := R_N) (T := F_N) (N := 2) hx hb hts i_N hown hK hP 0 rfl rfl 1 (by decide) (hts _ zfl_N_13) (fun _ h9 => h9) rfl d_N_limbAt_6 ?_
    refine lv_icmp_ge (tgt := 21) hx hb d_N_limbAt_9 (by decide) (fun c_9 => ?_) (fun c_9 => ?_)
    · have hf := (zbr hf).1 c_9
      refine lv_iconst (v := 0) hx hb d_N_limbAt_21 (by decide) ?_
      exact hret ((0 : Int32)) () H locs ls _ d_N_limbAt_22 hP hD hS (Option.some.inj hf)
    · have hf := (zbr hf).2 c_9
      refine lv_aload_n hx hb d_N_limbAt_12 rfl (lv_at hl 0 rfl) ?_
      refine va_get (C := R_N) (T := F_N) (N := 2) hx hb hts i_N hown hK hP 0 rfl rfl 0 (by decide) (hts _ zfl_N_9) (fun _ h9 => h9) rfl d_N_limbAt_13 ?_
      refine lv_iload_n hx hb d_N_limbAt_16 rfl (lv_at hl 1 rfl) ?_
      obtain ⟨g_17, hf⟩ := zgd hf
      refine va_iald hx hb hK hP 1 0 rfl rfl (zin_vp g_17) d_N_limbAt_17 ?_
      refine lv_goto (tgt := 22) hx hb d_N_limbAt_18 (by decide) ?_
      exact hret ((t_limbs x1.toNatClampNeg)) () H locs ls _ d_N_limbAt_22 hP hD hS (Option.some.inj hf)
theorem d_N_bitLength_0 : decode c_N_bitLength 0 = .ok (.aload_n 0, 1) := by decide +kernel
theorem d_N_bitLength_1 : decode c_N_bitLength 1 = .ok (.getfield 13, 3) := by decide +kernel
theorem d_N_bitLength_4 : decode c_N_bitLength 4 = .ok (.ifCond .ne 7, 3) := by decide +kernel
theorem d_N_bitLength_7 : decode c_N_bitLength 7 = .ok (.iconst 0, 1) := by decide +kernel
theorem d_N_bitLength_8 : decode c_N_bitLength 8 = .ok (.goto 28, 3) := by decide +kernel
theorem d_N_bitLength_11 : decode c_N_bitLength 11 = .ok (.aload_n 0, 1) := by decide +kernel
theorem d_N_bitLength_12 : decode c_N_bitLength 12 = .ok (.getfield 13, 3) := by decide +kernel
theorem d_N_bitLength_15 : decode c_N_bitLength 15 = .ok (.iconst 1, 1) := by decide +kernel
theorem d_N_bitLength_16 : decode c_N_bitLength 16 = .ok (.isub, 1) := by decide +kernel
theorem d_N_bitLength_17 : decode c_N_bitLength 17 = .ok (.bipush 30, 2) := by decide +kernel
theorem d_N_bitLength_19 : decode c_N_bitLength 19 = .ok (.imul, 1) := by decide +kernel
theorem d_N_bitLength_20 : decode c_N_bitLength 20 = .ok (.aload_n 0, 1) := by decide +kernel
theorem d_N_bitLength_21 : decode c_N_bitLength 21 = .ok (.getfield 9, 3) := by decide +kernel
theorem d_N_bitLength_24 : decode c_N_bitLength 24 = .ok (.aload_n 0, 1) := by decide +kernel
theorem d_N_bitLength_25 : decode c_N_bitLength 25 = .ok (.getfield 13, 3) := by decide +kernel
theorem d_N_bitLength_28 : decode c_N_bitLength 28 = .ok (.iconst 1, 1) := by decide +kernel
theorem d_N_bitLength_29 : decode c_N_bitLength 29 = .ok (.isub, 1) := by decide +kernel
theorem d_N_bitLength_30 : decode c_N_bitLength 30 = .ok (.iaload, 1) := by decide +kernel
theorem d_N_bitLength_31 : decode c_N_bitLength 31 = .ok (.i2l, 1) := by decide +kernel
theorem d_N_bitLength_32 : decode c_N_bitLength 32 = .ok (.invokestatic 21, 3) := by decide +kernel
theorem d_N_bitLength_35 : decode c_N_bitLength 35 = .ok (.iadd, 1) := by decide +kernel
theorem d_N_bitLength_36 : decode c_N_bitLength 36 = .ok (.ireturn, 1) := by decide +kernel
theorem zn_N_21 : zNS R_N 21 y_B_bitLength c_B_bitLength 4 (some .int) 1 := ⟨zco_B_bitLength, zin_B, zml_N_21, zst_B_bitLength, by decide +kernel⟩
set_option maxHeartbeats 4000000 in
set_option maxRecDepth 100000 in
theorem k_N_bitLength (κ : zC) (X : zXT) (hX : zX κ X) (l : Launch) (a_t a_t_limbs : Nat) (sz : Nat) (t_used : Int32) (t_limbs : Nat → Int32) (out : Int32) (hf : f_N_bitLength t_used t_limbs = some out) : zMet κ X l y_N_bitLength c_N_bitLength 1 (some .int) 1 23 [.ref a_t] sz [(a_t, .inr (2, [.ref a_t_limbs, .int t_used])), (a_t_limbs, .inl (κ.2.1, 48, .inl t_limbs))] (zQi κ (fun (r : Int32) (_ : Unit) => r = out) (fun u => [(a_t, .inr (2, [.ref a_t_limbs, .int t_used])), (a_t_limbs, .inl (κ.2.1, 48, .inl t_limbs))])) := by
  refine zMet.ofI (by decide +kernel) (Nat.le_of_ble_eq_true rfl) ?_
  intro p e s m args below meth c ls A Q hF hK hP hD hA hXs hS hl hret
  obtain ⟨hx, hb, hml, hown, hts⟩ := id hF
  obtain ⟨H, hH⟩ : ∃ H, H = s.heap := ⟨_, rfl⟩
  obtain ⟨locs, hlo⟩ : ∃ z : List Loc, z = [] := ⟨_, rfl⟩
  replace hP : zP κ [(a_t, .inr (2, [.ref a_t_limbs, .int t_used])), (a_t_limbs, .inl (κ.2.1, 48, .inl t_limbs))] H := by rw [hH]; exact hP
  replace hS : va_S A s.heap H locs := by rw [hH, hlo]; exact hS
  suffices hgo : W p l e (zR 1 23) s m args below meth c H locs 0 0 Q (F0 m 0 ls []) by rw [hH, hlo] at hgo; exact hgo
  clear hH hlo
  replace hl : lv_has ls 1 [(0, .ref a_t)] := hl
  unfold f_N_bitLength at hf
  refine lv_aload_n hx hb d_N_bitLength_0 rfl (lv_at hl 0 rfl) ?_
  refine va_get (C := R_N) (T := F_N) (N := 2) hx hb hts i_N hown hK hP 0 rfl rfl 1 (by decide) (hts _ zfl_N_13) (fun _ h9 => h9) rfl d_N_bitLength_1 ?_
  refine lv_if_ne (tgt := 11) hx hb d_N_bitLength_4 (by decide) (fun c_4 => ?_) (fun c_4 => ?_)
  · have hf := (zbr hf).2 c_4
    refine lv_aload_n hx hb d_N_bitLength_11 rfl (lv_at hl 0 rfl) ?_
    refine va_get (C := R_N) (T := F_N) (N := 2) hx hb hts i_N hown hK hP 0 rfl rfl 1 (by decide) (hts _ zfl_N_13) (fun _ h9 => h9) rfl d_N_bitLength_12 ?_
    refine lv_iconst (v := 1) hx hb d_N_bitLength_15 (by decide) ?_
    refine lv_isub hx hb d_N_bitLength_16 ?_
    refine lv_bipush (v := 30) hx hb d_N_bitLength_17 (by decide) ?_
    refine lv_imul hx hb d_N_bitLength_19 ?_
    refine lv_aload_n hx hb d_N_bitLength_20 rfl (lv_at hl 0 rfl) ?_
    refine va_get (C := R_N) (T := F_N) (N := 2) hx hb hts i_N hown hK hP 0 rfl rfl 0 (by decide) (hts _ zfl_N_9) (fun _ h9 => h9) rfl d_N_bitLength_21 ?_
    refine lv_aload_n hx hb d_N_bitLength_24 rfl (lv_at hl 0 rfl) ?_
    refine va_get (C := R_N) (T := F_N) (N := 2) hx hb hts i_N hown hK hP 0 rfl rfl 1 (by decide) (hts _ zfl_N_13) (fun _ h9 => h9) rfl d_N_bitLength_25 ?_
    refine lv_iconst (v := 1) hx hb d_N_bitLength_28 (by decide) ?_
    refine lv_isub hx hb d_N_bitLength_29 ?_
    obtain ⟨g_30, hf⟩ := zgd hf
    refine va_iald hx hb hK hP 1 0 rfl rfl (zin_vp g_30) d_N_bitLength_30 ?_
    refine lv_i2l hx hb d_N_bitLength_31 rfl ?_
    obtain ⟨o_32, ho_32, hf⟩ := zbd hf
    refine zSi (isC := []) (isR := [0, 1]) (isN := [0, 1]) (wc := []) (wr := [(a_t, .inr (2, [.ref a_t_limbs, .int t_used])), (a_t_limbs, .inl (κ.2.1, 48, .inl t_limbs))]) (wn := fun u => [(a_t, .inr (2, [.ref a_t_limbs, .int t_used])), (a_t_limbs, .inl (κ.2.1, 48, .inl t_limbs))]) (rest := [.int ((t_used - 1) * 30)]) (As := [.long ((t_limbs (t_used - 1).toNatClampNeg)).toInt64]) hF zn_N_21 (k_B_bitLength κ X hX l H.size (((t_limbs (t_used - 1).toNatClampNeg)).toInt64) o_32 ho_32) hX hXs hK hA hP hD hS ⟨by decide, by decide⟩ ⟨rfl, rfl, rfl, rfl, rfl, by decide⟩ ⟨rfl, fun _ => rfl, fun _ => rfl⟩ rfl hl.1 rfl (Nat.le_of_ble_eq_true rfl) ⟨Nat.zero_le _, Nat.zero_le _⟩ d_N_bitLength_32 (fun r_32 u H locs hw hP hD hS => ?_)
    subst hw
    refine lv_iadd hx hb d_N_bitLength_35 ?_
    exact hret ((((t_used - 1) * 30) + r_32)) () H locs ls _ d_N_bitLength_36 hP hD hS (Option.some.inj hf)
  · have hf := (zbr hf).1 c_4
    refine lv_iconst (v := 0) hx hb d_N_bitLength_7 (by decide) ?_
    refine lv_goto (tgt := 36) hx hb d_N_bitLength_8 (by decide) ?_
    exact hret ((0 : Int32)) () H locs ls _ d_N_bitLength_36 hP hD hS (Option.some.inj hf)
theorem d_N_slack_0 : decode c_N_slack 0 = .ok (.aload_n 0, 1) := by decide +kernel
theorem d_N_slack_1 : decode c_N_slack 1 = .ok (.getfield 13, 3) := by decide +kernel
theorem d_N_slack_4 : decode c_N_slack 4 = .ok (.ifCond .ne 7, 3) := by decide +kernel
theorem d_N_slack_7 : decode c_N_slack 7 = .ok (.iconst 0, 1) := by decide +kernel
theorem d_N_slack_8 : decode c_N_slack 8 = .ok (.goto 21, 3) := by decide +kernel
theorem d_N_slack_11 : decode c_N_slack 11 = .ok (.bipush 30, 2) := by decide +kernel
theorem d_N_slack_13 : decode c_N_slack 13 = .ok (.aload_n 0, 1) := by decide +kernel
theorem d_N_slack_14 : decode c_N_slack 14 = .ok (.getfield 9, 3) := by decide +kernel
theorem d_N_slack_17 : decode c_N_slack 17 = .ok (.aload_n 0, 1) := by decide +kernel
theorem d_N_slack_18 : decode c_N_slack 18 = .ok (.getfield 13, 3) := by decide +kernel
theorem d_N_slack_21 : decode c_N_slack 21 = .ok (.iconst 1, 1) := by decide +kernel
theorem d_N_slack_22 : decode c_N_slack 22 = .ok (.isub, 1) := by decide +kernel
theorem d_N_slack_23 : decode c_N_slack 23 = .ok (.iaload, 1) := by decide +kernel
theorem d_N_slack_24 : decode c_N_slack 24 = .ok (.i2l, 1) := by decide +kernel
theorem d_N_slack_25 : decode c_N_slack 25 = .ok (.invokestatic 21, 3) := by decide +kernel
theorem d_N_slack_28 : decode c_N_slack 28 = .ok (.isub, 1) := by decide +kernel
theorem d_N_slack_29 : decode c_N_slack 29 = .ok (.ireturn, 1) := by decide +kernel
set_option maxHeartbeats 4000000 in
set_option maxRecDepth 100000 in
theorem k_N_slack (κ : zC) (X : zXT) (hX : zX κ X) (l : Launch) (a_t a_t_limbs : Nat) (sz : Nat) (t_used : Int32) (t_limbs : Nat → Int32) (out : Int32) (hf : f_N_slack t_used t_limbs = some out) : zMet κ X l y_N_slack c_N_slack 1 (some .int) 1 23 [.ref a_t] sz [(a_t, .inr (2, [.ref a_t_limbs, .int t_used])), (a_t_limbs, .inl (κ.2.1, 48, .inl t_limbs))] (zQi κ (fun (r : Int32) (_ : Unit) => r = out) (fun u => [(a_t, .inr (2, [.ref a_t_limbs, .int t_used])), (a_t_limbs, .inl (κ.2.1, 48, .inl t_limbs))])) := by
  refine zMet.ofI (by decide +kernel) (Nat.le_of_ble_eq_true rfl) ?_
  intro p e s m args below meth c ls A Q hF hK hP hD hA hXs hS hl hret
  obtain ⟨hx, hb, hml, hown, hts⟩ := id hF
  obtain ⟨H, hH⟩ : ∃ H, H = s.heap := ⟨_, rfl⟩
  obtain ⟨locs, hlo⟩ : ∃ z : List Loc, z = [] := ⟨_, rfl⟩
  replace hP : zP κ [(a_t, .inr (2, [.ref a_t_limbs, .int t_used])), (a_t_limbs, .inl (κ.2.1, 48, .inl t_limbs))] H := by rw [hH]; exact hP
  replace hS : va_S A s.heap H locs := by rw [hH, hlo]; exact hS
  suffices hgo : W p l e (zR 1 23) s m args below meth c H locs 0 0 Q (F0 m 0 ls []) by rw [hH, hlo] at hgo; exact hgo
  clear hH hlo
  replace hl : lv_has ls 1 [(0, .ref a_t)] := hl
  unfold f_N_slack at hf
  refine lv_aload_n hx hb d_N_slack_0 rfl (lv_at hl 0 rfl) ?_
  refine va_get (C := R_N) (T := F_N) (N := 2) hx hb hts i_N hown hK hP 0 rfl rfl 1 (by decide) (hts _ zfl_N_13) (fun _ h9 => h9) rfl d_N_slack_1 ?_
  refine lv_if_ne (tgt := 11) hx hb d_N_slack_4 (by decide) (fun c_4 => ?_) (fun c_4 => ?_)
  · have hf := (zbr hf).2 c_4
    refine lv_bipush (v := 30) hx hb d_N_slack_11 (by decide) ?_
    refine lv_aload_n hx hb d_N_slack_13 rfl (lv_at hl 0 rfl) ?_
    refine va_get (C := R_N) (T := F_N) (N := 2) hx hb hts i_N hown hK hP 0 rfl rfl 0 (by decide) (hts _ zfl_N_9) (fun _ h9 => h9) rfl d_N_slack_14 ?_
    refine lv_aload_n hx hb d_N_slack_17 rfl (lv_at hl 0 rfl) ?_
    refine va_get (C := R_N) (T := F_N) (N := 2) hx hb hts i_N hown hK hP 0 rfl rfl 1 (by decide) (hts _ zfl_N_13) (fun _ h9 => h9) rfl d_N_slack_18 ?_
    refine lv_iconst (v := 1) hx hb d_N_slack_21 (by decide) ?_
    refine lv_isub hx hb d_N_slack_22 ?_
    obtain ⟨g_23, hf⟩ := zgd hf
    refine va_iald hx hb hK hP 1 0 rfl rfl (zin_vp g_23) d_N_slack_23 ?_
    refine lv_i2l hx hb d_N_slack_24 rfl ?_
    obtain ⟨o_25, ho_25, hf⟩ := zbd hf
    refine zSi (isC := []) (isR := [0, 1]) (isN := [0, 1]) (wc := []) (wr := [(a_t, .inr (2, [.ref a_t_limbs, .int t_used])), (a_t_limbs, .inl (κ.2.1, 48, .inl t_limbs))]) (wn := fun u => [(a_t, .inr (2, [.ref a_t_limbs, .int t_used])), (a_t_limbs, .inl (κ.2.1, 48, .inl t_limbs))]) (rest := [.int 30]) (As := [.long ((t_limbs (t_used - 1).toNatClampNeg)).toInt64]) hF zn_N_21 (k_B_bitLength κ X hX l H.size (((t_limbs (t_used - 1).toNatClampNeg)).toInt64) o_25 ho_25) hX hXs hK hA hP hD hS ⟨by decide, by decide⟩ ⟨rfl, rfl, rfl, rfl, rfl, by decide⟩ ⟨rfl, fun _ => rfl, fun _ => rfl⟩ rfl hl.1 rfl (Nat.le_of_ble_eq_true rfl) ⟨Nat.zero_le _, Nat.zero_le _⟩ d_N_slack_25 (fun r_25 u H locs hw hP hD hS => ?_)
    subst hw
    refine lv_isub hx hb d_N_slack_28 ?_
    exact hret ((30 - r_25)) () H locs ls _ d_N_slack_29 hP hD hS (Option.some.inj hf)
  · have hf := (zbr hf).1 c_4
    refine lv_iconst (v := 0) hx hb d_N_slack_7 (by decide) ?_
    refine lv_goto (tgt := 29) hx hb d_N_slack_8 (by decide) ?_
    exact hret ((0 : Int32)) () H locs ls _ d_N_slack_29 hP hD hS (Option.some.inj hf)
theorem d_N_order_0 : decode c_N_order 0 = .ok (.aload_n 0, 1) := by decide +kernel
theorem d_N_order_1 : decode c_N_order 1 = .ok (.getfield 13, 3) := by decide +kernel
theorem d_N_order_4 : decode c_N_order 4 = .ok (.aload_n 1, 1) := by decide +kernel
theorem d_N_order_5 : decode c_N_order 5 = .ok (.getfield 13, 3) := by decide +kernel
theorem d_N_order_8 : decode c_N_order 8 = .ok (.if_icmp .eq 20, 3) := by decide +kernel
theorem d_N_order_11 : decode c_N_order 11 = .ok (.aload_n 0, 1) := by decide +kernel
theorem d_N_order_12 : decode c_N_order 12 = .ok (.getfield 13, 3) := by decide +kernel
theorem d_N_order_15 : decode c_N_order 15 = .ok (.aload_n 1, 1) := by decide +kernel
theorem d_N_order_16 : decode c_N_order 16 = .ok (.getfield 13, 3) := by decide +kernel
theorem d_N_order_19 : decode c_N_order 19 = .ok (.if_icmp .ge 7, 3) := by decide +kernel
theorem d_N_order_22 : decode c_N_order 22 = .ok (.iconst (-1), 1) := by decide +kernel
theorem d_N_order_23 : decode c_N_order 23 = .ok (.goto 4, 3) := by decide +kernel
theorem d_N_order_26 : decode c_N_order 26 = .ok (.iconst 1, 1) := by decide +kernel
theorem d_N_order_27 : decode c_N_order 27 = .ok (.ireturn, 1) := by decide +kernel
theorem d_N_order_28 : decode c_N_order 28 = .ok (.aload_n 0, 1) := by decide +kernel
theorem d_N_order_29 : decode c_N_order 29 = .ok (.getfield 13, 3) := by decide +kernel
theorem d_N_order_32 : decode c_N_order 32 = .ok (.iconst 1, 1) := by decide +kernel
theorem d_N_order_33 : decode c_N_order 33 = .ok (.isub, 1) := by decide +kernel
theorem d_N_order_34 : decode c_N_order 34 = .ok (.istore_n 2, 1) := by decide +kernel
theorem d_N_order_35 : decode c_N_order 35 = .ok (.iload_n 2, 1) := by decide +kernel
theorem d_N_order_36 : decode c_N_order 36 = .ok (.ifCond .lt 45, 3) := by decide +kernel
theorem d_N_order_39 : decode c_N_order 39 = .ok (.aload_n 0, 1) := by decide +kernel
theorem d_N_order_40 : decode c_N_order 40 = .ok (.getfield 9, 3) := by decide +kernel
theorem d_N_order_43 : decode c_N_order 43 = .ok (.iload_n 2, 1) := by decide +kernel
theorem d_N_order_44 : decode c_N_order 44 = .ok (.iaload, 1) := by decide +kernel
theorem d_N_order_45 : decode c_N_order 45 = .ok (.aload_n 1, 1) := by decide +kernel
theorem d_N_order_46 : decode c_N_order 46 = .ok (.getfield 9, 3) := by decide +kernel
theorem d_N_order_49 : decode c_N_order 49 = .ok (.iload_n 2, 1) := by decide +kernel
theorem d_N_order_50 : decode c_N_order 50 = .ok (.iaload, 1) := by decide +kernel
theorem d_N_order_51 : decode c_N_order 51 = .ok (.if_icmp .eq 24, 3) := by decide +kernel
theorem d_N_order_54 : decode c_N_order 54 = .ok (.aload_n 0, 1) := by decide +kernel
theorem d_N_order_55 : decode c_N_order 55 = .ok (.getfield 9, 3) := by decide +kernel
theorem d_N_order_58 : decode c_N_order 58 = .ok (.iload_n 2, 1) := by decide +kernel
theorem d_N_order_59 : decode c_N_order 59 = .ok (.iaload, 1) := by decide +kernel
theorem d_N_order_60 : decode c_N_order 60 = .ok (.aload_n 1, 1) := by decide +kernel
theorem d_N_order_61 : decode c_N_order 61 = .ok (.getfield 9, 3) := by decide +kernel
theorem d_N_order_64 : decode c_N_order 64 = .ok (.iload_n 2, 1) := by decide +kernel
theorem d_N_order_65 : decode c_N_order 65 = .ok (.iaload, 1) := by decide +kernel
theorem d_N_order_66 : decode c_N_order 66 = .ok (.if_icmp .ge 7, 3) := by decide +kernel
theorem d_N_order_69 : decode c_N_order 69 = .ok (.iconst (-1), 1) := by decide +kernel
theorem d_N_order_70 : decode c_N_order 70 = .ok (.goto 4, 3) := by decide +kernel
theorem d_N_order_73 : decode c_N_order 73 = .ok (.iconst 1, 1) := by decide +kernel
theorem d_N_order_74 : decode c_N_order 74 = .ok (.ireturn, 1) := by decide +kernel
theorem d_N_order_75 : decode c_N_order 75 = .ok (.iinc 2 (-1), 3) := by decide +kernel
theorem d_N_order_78 : decode c_N_order 78 = .ok (.goto (-43), 3) := by decide +kernel
theorem d_N_order_81 : decode c_N_order 81 = .ok (.iconst 0, 1) := by decide +kernel
theorem d_N_order_82 : decode c_N_order 82 = .ok (.ireturn, 1) := by decide +kernel
set_option maxHeartbeats 4000000 in
set_option maxRecDepth 100000 in
theorem k_N_order (κ : zC) (X : zXT) (hX : zX κ X) (l : Launch) (a_t a_o a_t_limbs a_o_limbs : Nat) (sz : Nat) (t_used : Int32) (t_limbs : Nat → Int32) (o_used : Int32) (o_limbs : Nat → Int32) (out : Int32) (hf : f_N_order t_used t_limbs o_used o_limbs = some out) : zMet κ X l y_N_order c_N_order 3 (some .int) 0 0 [.ref a_t, .ref a_o] sz [(a_t, .inr (2, [.ref a_t_limbs, .int t_used])), (a_t_limbs, .inl (κ.2.1, 48, .inl t_limbs)), (a_o, .inr (2, [.ref a_o_limbs, .int o_used])), (a_o_limbs, .inl (κ.2.1, 48, .inl o_limbs))] (zQi κ (fun (r : Int32) (_ : Unit) => r = out) (fun u => [(a_t, .inr (2, [.ref a_t_limbs, .int t_used])), (a_t_limbs, .inl (κ.2.1, 48, .inl t_limbs)), (a_o, .inr (2, [.ref a_o_limbs, .int o_used])), (a_o_limbs, .inl (κ.2.1, 48, .inl o_limbs))])) := by
  refine zMet.ofI (by decide +kernel) (Nat.le_of_ble_eq_true rfl) ?_
  intro p e s m args below meth c ls A Q hF hK hP hD hA hXs hS hl hret
  obtain ⟨hx, hb, hml, hown, hts⟩ := id hF
  obtain ⟨H, hH⟩ : ∃ H, H = s.heap := ⟨_, rfl⟩
  obtain ⟨locs, hlo⟩ : ∃ z : List Loc, z = [] := ⟨_, rfl⟩
  replace hP : zP κ [(a_t, .inr (2, [.ref a_t_limbs, .int t_used])), (a_t_limbs, .inl (κ.2.1, 48, .inl t_limbs)), (a_o, .inr (2, [.ref a_o_limbs, .int o_used])), (a_o_limbs, .inl (κ.2.1, 48, .inl o_limbs))] H := by rw [hH]; exact hP
  replace hS : va_S A s.heap H locs := by rw [hH, hlo]; exact hS
  suffices hgo : W p l e (zR 0 0) s m args below meth c H locs 0 0 Q (F0 m 0 ls []) by rw [hH, hlo] at hgo; exact hgo
  clear hH hlo
  replace hl : lv_has ls 3 [(0, .ref a_t), (1, .ref a_o)] := hl
  have b_54 : ∀ (x2 : Int32) (H : Heap) (locs : List Loc) (ls : Array Slot), f_N_order_54 t_used t_limbs o_used o_limbs x2 = some out → zP κ [(a_t, .inr (2, [.ref a_t_limbs, .int t_used])), (a_t_limbs, .inl (κ.2.1, 48, .inl t_limbs)), (a_o, .inr (2, [.ref a_o_limbs, .int o_used])), (a_o_limbs, .inl (κ.2.1, 48, .inl o_limbs))] H → va_D A [(a_t, .inr (2, [.ref a_t_limbs, .int t_used])), (a_t_limbs, .inl (κ.2.1, 48, .inl t_limbs)), (a_o, .inr (2, [.ref a_o_limbs, .int o_used])), (a_o_limbs, .inl (κ.2.1, 48, .inl o_limbs))] → va_S A s.heap H locs → lv_has ls 3 [(0, .ref a_t), (1, .ref a_o), (2, .int x2)] → W p l e (zR 0 0) s m args below meth c H locs 0 0 Q (F0 m 54 ls []) := by
    intro x2 H locs ls hf hP hD hS hl
    unfold f_N_order_54 at hf
    refine lv_aload_n hx hb d_N_order_54 rfl (lv_at hl 0 rfl) ?_
    refine va_get (C := R_N) (T := F_N) (N := 2) hx hb hts i_N hown hK hP 0 rfl rfl 0 (by decide) (hts _ zfl_N_9) (fun _ h9 => h9) rfl d_N_order_55 ?_
    refine lv_iload_n hx hb d_N_order_58 rfl (lv_at hl 2 rfl) ?_
    obtain ⟨g_59, hf⟩ := zgd hf
    refine va_iald hx hb hK hP 1 0 rfl rfl (zin_vp g_59) d_N_order_59 ?_
    refine lv_aload_n hx hb d_N_order_60 rfl (lv_at hl 1 rfl) ?_
    refine va_get (C := R_N) (T := F_N) (N := 2) hx hb hts i_N hown hK hP 2 rfl rfl 0 (by decide) (hts _ zfl_N_9) (fun _ h9 => h9) rfl d_N_order_61 ?_
    refine lv_iload_n hx hb d_N_order_64 rfl (lv_at hl 2 rfl) ?_
    obtain ⟨g_65, hf⟩ := zgd hf
    refine va_iald hx hb hK hP 3 0 rfl rfl (zin_vp g_65) d_N_order_65 ?_
    refine lv_icmp_ge (tgt := 73) hx hb d_N_order_66 (by decide) (fun c_66 => ?_) (fun c_66 => ?_)
    · have hf := (zbr hf).1 c_66
      refine lv_iconst (v := 1) hx hb d_N_order_73 (by decide) ?_
      exact hret ((1 : Int32)) () H locs ls _ d_N_order_74 hP hD hS (Option.some.inj hf)
    · have hf := (zbr hf).2 c_66
      refine lv_iconst (v := (-1)) hx hb d_N_order_69 (by decide) ?_
      refine lv_goto (tgt := 74) hx hb d_N_order_70 (by decide) ?_
      exact hret (((-1) : Int32)) () H locs ls _ d_N_order_74 hP hD hS (Option.some.inj hf)
  have b_35 : ∀ (x2 : Int32) (H : Heap) (locs : List Loc) (ls : Array Slot), f_N_order_35 t_used t_limbs o_used o_limbs x2 = some out → zP κ [(a_t, .inr (2, [.ref a_t_limbs, .int t_used])), (a_t_limbs, .inl (κ.2.1, 48, .inl t_limbs)), (a_o, .inr (2, [.ref a_o_limbs, .int o_used])), (a_o_limbs, .inl (κ.2.1, 48, .inl o_limbs))] H → va_D A [(a_t, .inr (2, [.ref a_t_limbs, .int t_used])), (a_t_limbs, .inl (κ.2.1, 48, .inl t_limbs)), (a_o, .inr (2, [.ref a_o_limbs, .int o_used])), (a_o_limbs, .inl (κ.2.1, 48, .inl o_limbs))] → va_S A s.heap H locs → lv_has ls 3 [(0, .ref a_t), (1, .ref a_o), (2, .int x2)] → W p l e (zR 0 0) s m args below meth c H locs 0 0 Q (F0 m 35 ls []) := by
    intro x2 H locs ls hf hP hD hS hl
    refine zrun_ind (P := fun z : (Int32) => ∀ (H : Heap) (locs : List Loc) (ls : Array Slot), zP κ [(a_t, .inr (2, [.ref a_t_limbs, .int t_used])), (a_t_limbs, .inl (κ.2.1, 48, .inl t_limbs)), (a_o, .inr (2, [.ref a_o_limbs, .int o_used])), (a_o_limbs, .inl (κ.2.1, 48, .inl o_limbs))] H → va_D A [(a_t, .inr (2, [.ref a_t_limbs, .int t_used])), (a_t_limbs, .inl (κ.2.1, 48, .inl t_limbs)), (a_o, .inr (2, [.ref a_o_limbs, .int o_used])), (a_o_limbs, .inl (κ.2.1, 48, .inl o_limbs))] → va_S A s.heap H locs → lv_has ls 3 [(0, .ref a_t), (1, .ref a_o), (2, .int z)] → W p l e (zR 0 0) s m args below meth c H locs 0 0 Q (F0 m 35 ls [])) ?_ hf H locs ls hP hD hS hl
    clear hf hP hD hS hl H locs ls x2
    intro z ih hne hexit_35 H locs ls hP hD hS hl
    obtain ⟨q_35, hf⟩ := zne hne
    have hback_35 := fun y (e : q_35 = .inl y) => ih y (e ▸ hf)
    replace hexit_35 := fun y (e : q_35 = .inr y) => hexit_35 y (e ▸ hf)
    clear ih hne
    obtain ⟨x2, rfl⟩ : ∃ w, w = z := ⟨_, rfl⟩
    replace hf : f_N_order_35_body t_used t_limbs o_used o_limbs x2 = some q_35 := hf
    replace hP : zP κ [(a_t, .inr (2, [.ref a_t_limbs, .int t_used])), (a_t_limbs, .inl (κ.2.1, 48, .inl t_limbs)), (a_o, .inr (2, [.ref a_o_limbs, .int o_used])), (a_o_limbs, .inl (κ.2.1, 48, .inl o_limbs))] H := hP
    replace hD : va_D A [(a_t, .inr (2, [.ref a_t_limbs, .int t_used])), (a_t_limbs, .inl (κ.2.1, 48, .inl t_limbs)), (a_o, .inr (2, [.ref a_o_limbs, .int o_used])), (a_o_limbs, .inl (κ.2.1, 48, .inl o_limbs))] := hD
    replace hl : lv_has ls 3 [(0, .ref a_t), (1, .ref a_o), (2, .int x2)] := hl
    unfold f_N_order_35_body at hf
    refine lv_iload_n hx hb d_N_order_35 rfl (lv_at hl 2 rfl) ?_
    refine lv_if_lt (tgt := 81) hx hb d_N_order_36 (by decide) (fun c_36 => ?_) (fun c_36 => ?_)
    · have hf := (zbr hf).1 c_36
      refine lv_iconst (v := 0) hx hb d_N_order_81 (by decide) ?_
      have hf := zex hf hexit_35
      exact hret ((0 : Int32)) () H locs ls _ d_N_order_82 hP hD hS (Option.some.inj hf)
    · have hf := (zbr hf).2 c_36
      refine lv_aload_n hx hb d_N_order_39 rfl (lv_at hl 0 rfl) ?_
      refine va_get (C := R_N) (T := F_N) (N := 2) hx hb hts i_N hown hK hP 0 rfl rfl 0 (by decide) (hts _ zfl_N_9) (fun _ h9 => h9) rfl d_N_order_40 ?_
      refine lv_iload_n hx hb d_N_order_43 rfl (lv_at hl 2 rfl) ?_
      obtain ⟨g_44, hf⟩ := zgd hf
      refine va_iald hx hb hK hP 1 0 rfl rfl (zin_vp g_44) d_N_order_44 ?_
      refine lv_aload_n hx hb d_N_order_45 rfl (lv_at hl 1 rfl) ?_
      refine va_get (C := R_N) (T := F_N) (N := 2) hx hb hts i_N hown hK hP 2 rfl rfl 0 (by decide) (hts _ zfl_N_9) (fun _ h9 => h9) rfl d_N_order_46 ?_
      refine lv_iload_n hx hb d_N_order_49 rfl (lv_at hl 2 rfl) ?_
      obtain ⟨g_50, hf⟩ := zgd hf
      refine va_iald hx hb hK hP 3 0 rfl rfl (zin_vp g_50) d_N_order_50 ?_
      refine lv_icmp_eq (tgt := 75) hx hb d_N_order_51 (by decide) (fun c_51 => ?_) (fun c_51 => ?_)
      · have hf := (zbr hf).1 c_51
        refine lv_iinc (v := (x2 + (-1))) (lv' := [(2, .int (x2 + (-1))), (0, .ref a_t), (1, .ref a_o)]) hx hb d_N_order_75 hl (k := 2) rfl rfl (by decide) rfl (fun ls hl => ?_)
        refine lv_goto (tgt := 35) hx hb d_N_order_78 (by decide) ?_
        exact hback_35 _ (Option.some.inj hf).symm H locs ls hP hD hS (lv_sub hl [1, 2, 0] rfl)
      · have hf := (zbr hf).2 c_51
        have hf := zex hf hexit_35
        exact b_54 x2 H locs ls hf hP hD hS hl
  unfold f_N_order at hf
  refine lv_aload_n hx hb d_N_order_0 rfl (lv_at hl 0 rfl) ?_
  refine va_get (C := R_N) (T := F_N) (N := 2) hx hb hts i_N hown hK hP 0 rfl rfl 1 (by decide) (hts _ zfl_N_13) (fun _ h9 => h9) rfl d_N_order_1 ?_
  refine lv_aload_n hx hb d_N_order_4 rfl (lv_at hl 1 rfl) ?_
  refine va_get (C := R_N) (T := F_N) (N := 2) hx hb hts i_N hown hK hP 2 rfl rfl 1 (by decide) (hts _ zfl_N_13) (fun _ h9 => h9) rfl d_N_order_5 ?_
  refine lv_icmp_eq (tgt := 28) hx hb d_N_order_8 (by decide) (fun c_8 => ?_) (fun c_8 => ?_)
  · have hf := (zbr hf).1 c_8
    refine lv_aload_n hx hb d_N_order_28 rfl (lv_at hl 0 rfl) ?_
    refine va_get (C := R_N) (T := F_N) (N := 2) hx hb hts i_N hown hK hP 0 rfl rfl 1 (by decide) (hts _ zfl_N_13) (fun _ h9 => h9) rfl d_N_order_29 ?_
    refine lv_iconst (v := 1) hx hb d_N_order_32 (by decide) ?_
    refine lv_isub hx hb d_N_order_33 ?_
    refine lv_istore_n (lv' := [(2, .int (t_used - 1)), (0, .ref a_t), (1, .ref a_o)]) hx hb d_N_order_34 rfl hl (by decide) rfl (fun ls hl => ?_)
    exact b_35 (t_used - 1) H locs ls hf hP hD hS (lv_sub hl [1, 2, 0] rfl)
  · have hf := (zbr hf).2 c_8
    refine lv_aload_n hx hb d_N_order_11 rfl (lv_at hl 0 rfl) ?_
    refine va_get (C := R_N) (T := F_N) (N := 2) hx hb hts i_N hown hK hP 0 rfl rfl 1 (by decide) (hts _ zfl_N_13) (fun _ h9 => h9) rfl d_N_order_12 ?_
    refine lv_aload_n hx hb d_N_order_15 rfl (lv_at hl 1 rfl) ?_
    refine va_get (C := R_N) (T := F_N) (N := 2) hx hb hts i_N hown hK hP 2 rfl rfl 1 (by decide) (hts _ zfl_N_13) (fun _ h9 => h9) rfl d_N_order_16 ?_
    refine lv_icmp_ge (tgt := 26) hx hb d_N_order_19 (by decide) (fun c_19 => ?_) (fun c_19 => ?_)
    · have hf := (zbr hf).1 c_19
      refine lv_iconst (v := 1) hx hb d_N_order_26 (by decide) ?_
      exact hret ((1 : Int32)) () H locs ls _ d_N_order_27 hP hD hS (Option.some.inj hf)
    · have hf := (zbr hf).2 c_19
      refine lv_iconst (v := (-1)) hx hb d_N_order_22 (by decide) ?_
      refine lv_goto (tgt := 27) hx hb d_N_order_23 (by decide) ?_
      exact hret (((-1) : Int32)) () H locs ls _ d_N_order_27 hP hD hS (Option.some.inj hf)
theorem d_N_append_0 : decode c_N_append 0 = .ok (.iload_n 1, 1) := by decide +kernel
theorem d_N_append_1 : decode c_N_append 1 = .ok (.ifCond .eq 32, 3) := by decide +kernel
theorem d_N_append_4 : decode c_N_append 4 = .ok (.aload_n 0, 1) := by decide +kernel
theorem d_N_append_5 : decode c_N_append 5 = .ok (.getfield 13, 3) := by decide +kernel
theorem d_N_append_8 : decode c_N_append 8 = .ok (.bipush 48, 2) := by decide +kernel
theorem d_N_append_10 : decode c_N_append 10 = .ok (.if_icmp .ge 23, 3) := by decide +kernel
theorem d_N_append_13 : decode c_N_append 13 = .ok (.aload_n 0, 1) := by decide +kernel
theorem d_N_append_14 : decode c_N_append 14 = .ok (.getfield 9, 3) := by decide +kernel
theorem d_N_append_17 : decode c_N_append 17 = .ok (.aload_n 0, 1) := by decide +kernel
theorem d_N_append_18 : decode c_N_append 18 = .ok (.getfield 13, 3) := by decide +kernel
theorem d_N_append_21 : decode c_N_append 21 = .ok (.iload_n 1, 1) := by decide +kernel
theorem d_N_append_22 : decode c_N_append 22 = .ok (.iastore, 1) := by decide +kernel
theorem d_N_append_23 : decode c_N_append 23 = .ok (.aload_n 0, 1) := by decide +kernel
theorem d_N_append_24 : decode c_N_append 24 = .ok (.dup, 1) := by decide +kernel
theorem d_N_append_25 : decode c_N_append 25 = .ok (.getfield 13, 3) := by decide +kernel
theorem d_N_append_28 : decode c_N_append 28 = .ok (.iconst 1, 1) := by decide +kernel
theorem d_N_append_29 : decode c_N_append 29 = .ok (.iadd, 1) := by decide +kernel
theorem d_N_append_30 : decode c_N_append 30 = .ok (.putfield 13, 3) := by decide +kernel
theorem d_N_append_33 : decode c_N_append 33 = .ok (.return_, 1) := by decide +kernel
set_option maxHeartbeats 4000000 in
set_option maxRecDepth 100000 in
theorem k_N_append (κ : zC) (X : zXT) (hX : zX κ X) (l : Launch) (a_t a_t_limbs : Nat) (sz : Nat) (t_used : Int32) (t_limbs : Nat → Int32) (x1 : Int32) (out : (Int32) × (Nat → Int32)) (hf : f_N_append t_used t_limbs x1 = some out) : zMet κ X l y_N_append c_N_append 2 none 0 0 [.ref a_t, .int x1] sz [(a_t, .inr (2, [.ref a_t_limbs, .int t_used])), (a_t_limbs, .inl (κ.2.1, 48, .inl t_limbs))] (zQv κ (fun (u : (Int32) × (Nat → Int32)) => u = out) (fun u => [(a_t, .inr (2, [.ref a_t_limbs, .int u.1])), (a_t_limbs, .inl (κ.2.1, 48, .inl u.2))])) := by
  refine zMet.ofV (by decide +kernel) (Nat.le_of_ble_eq_true rfl) ?_
  intro p e s m args below meth c ls A Q hF hK hP hD hA hXs hS hl hret
  obtain ⟨hx, hb, hml, hown, hts⟩ := id hF
  obtain ⟨H, hH⟩ : ∃ H, H = s.heap := ⟨_, rfl⟩
  obtain ⟨locs, hlo⟩ : ∃ z : List Loc, z = [] := ⟨_, rfl⟩
  replace hP : zP κ [(a_t, .inr (2, [.ref a_t_limbs, .int t_used])), (a_t_limbs, .inl (κ.2.1, 48, .inl t_limbs))] H := by rw [hH]; exact hP
  replace hS : va_S A s.heap H locs := by rw [hH, hlo]; exact hS
  suffices hgo : W p l e (zR 0 0) s m args below meth c H locs 0 0 Q (F0 m 0 ls []) by rw [hH, hlo] at hgo; exact hgo
  clear hH hlo
  replace hl : lv_has ls 2 [(0, .ref a_t), (1, .int x1)] := hl
  unfold f_N_append at hf
  refine lv_iload_n hx hb d_N_append_0 rfl (lv_at hl 1 rfl) ?_
  refine lv_if_eq (tgt := 33) hx hb d_N_append_1 (by decide) (fun c_1 => ?_) (fun c_1 => ?_)
  · have hf := (zbr hf).1 c_1
    exact hret ((t_used, t_limbs)) H locs ls _ d_N_append_33 hP hD hS (Option.some.inj hf)
  · have hf := (zbr hf).2 c_1
    refine lv_aload_n hx hb d_N_append_4 rfl (lv_at hl 0 rfl) ?_
    refine va_get (C := R_N) (T := F_N) (N := 2) hx hb hts i_N hown hK hP 0 rfl rfl 1 (by decide) (hts _ zfl_N_13) (fun _ h9 => h9) rfl d_N_append_5 ?_
    refine lv_bipush (v := 48) hx hb d_N_append_8 (by decide) ?_
    refine lv_icmp_ge (tgt := 33) hx hb d_N_append_10 (by decide) (fun c_10 => ?_) (fun c_10 => ?_)
    · have hf := (zbr hf).1 c_10
      exact hret ((t_used, t_limbs)) H locs ls _ d_N_append_33 hP hD hS (Option.some.inj hf)
    · have hf := (zbr hf).2 c_10
      refine lv_aload_n hx hb d_N_append_13 rfl (lv_at hl 0 rfl) ?_
      refine va_get (C := R_N) (T := F_N) (N := 2) hx hb hts i_N hown hK hP 0 rfl rfl 0 (by decide) (hts _ zfl_N_9) (fun _ h9 => h9) rfl d_N_append_14 ?_
      refine lv_aload_n hx hb d_N_append_17 rfl (lv_at hl 0 rfl) ?_
      refine va_get (C := R_N) (T := F_N) (N := 2) hx hb hts i_N hown hK hP 0 rfl rfl 1 (by decide) (hts _ zfl_N_13) (fun _ h9 => h9) rfl d_N_append_18 ?_
      refine lv_iload_n hx hb d_N_append_21 rfl (lv_at hl 1 rfl) ?_
      obtain ⟨g_22, hf⟩ := zgd hf
      refine va_iast hx hb hK hP hD hS 1 0 rfl rfl (zin_vp g_22) d_N_append_22 (fun H locs hP hD hS => ?_)
      have hP : zP κ [(a_t, .inr (2, [.ref a_t_limbs, .int t_used])), (a_t_limbs, .inl (κ.2.1, 48, .inl (upd t_limbs t_used.toNatClampNeg x1)))] H := hP
      have hD : va_D A [(a_t, .inr (2, [.ref a_t_limbs, .int t_used])), (a_t_limbs, .inl (κ.2.1, 48, .inl (upd t_limbs t_used.toNatClampNeg x1)))] := hD
      refine lv_aload_n hx hb d_N_append_23 rfl (lv_at hl 0 rfl) ?_
      refine lv_dup hx hb d_N_append_24 rfl ?_
      refine va_get (C := R_N) (T := F_N) (N := 2) hx hb hts i_N hown hK hP 0 rfl rfl 1 (by decide) (hts _ zfl_N_13) (fun _ h9 => h9) rfl d_N_append_25 ?_
      refine lv_iconst (v := 1) hx hb d_N_append_28 (by decide) ?_
      refine lv_iadd hx hb d_N_append_29 ?_
      refine va_put (C := R_N) (T := F_N) (N := 2) hx hb hts i_N ty_N ty_N_ok n_N hown hK hP hD hS 0 rfl rfl 1 (by decide) (hts _ zfl_N_13) (fun _ h9 => h9) rfl (ty_N_ok 1 (by decide)) rfl rfl (Nat.le_of_ble_eq_true rfl) d_N_append_30 (fun H locs hP hD hS => ?_)
      have hP : zP κ [(a_t, .inr (2, [.ref a_t_limbs, .int (t_used + 1)])), (a_t_limbs, .inl (κ.2.1, 48, .inl (upd t_limbs t_used.toNatClampNeg x1)))] H := hP
      have hD : va_D A [(a_t, .inr (2, [.ref a_t_limbs, .int (t_used + 1)])), (a_t_limbs, .inl (κ.2.1, 48, .inl (upd t_limbs t_used.toNatClampNeg x1)))] := hD
      exact hret (((t_used + 1), (upd t_limbs t_used.toNatClampNeg x1))) H locs ls _ d_N_append_33 hP hD hS (Option.some.inj hf)
theorem d_N_add_0 : decode c_N_add 0 = .ok (.aload_n 0, 1) := by decide +kernel
theorem d_N_add_1 : decode c_N_add 1 = .ok (.getfield 13, 3) := by decide +kernel
theorem d_N_add_4 : decode c_N_add 4 = .ok (.aload_n 1, 1) := by decide +kernel
theorem d_N_add_5 : decode c_N_add 5 = .ok (.getfield 13, 3) := by decide +kernel
theorem d_N_add_8 : decode c_N_add 8 = .ok (.invokestatic 27, 3) := by decide +kernel
theorem d_N_add_11 : decode c_N_add 11 = .ok (.istore_n 2, 1) := by decide +kernel
theorem d_N_add_12 : decode c_N_add 12 = .ok (.iconst 0, 1) := by decide +kernel
theorem d_N_add_13 : decode c_N_add 13 = .ok (.istore_n 3, 1) := by decide +kernel
theorem d_N_add_14 : decode c_N_add 14 = .ok (.iconst 0, 1) := by decide +kernel
theorem d_N_add_15 : decode c_N_add 15 = .ok (.istore 4, 2) := by decide +kernel
theorem d_N_add_17 : decode c_N_add 17 = .ok (.iload 4, 2) := by decide +kernel
theorem d_N_add_19 : decode c_N_add 19 = .ok (.iload_n 2, 1) := by decide +kernel
theorem d_N_add_20 : decode c_N_add 20 = .ok (.if_icmp .ge 41, 3) := by decide +kernel
theorem d_N_add_23 : decode c_N_add 23 = .ok (.iload_n 3, 1) := by decide +kernel
theorem d_N_add_24 : decode c_N_add 24 = .ok (.aload_n 0, 1) := by decide +kernel
theorem d_N_add_25 : decode c_N_add 25 = .ok (.iload 4, 2) := by decide +kernel
theorem d_N_add_27 : decode c_N_add 27 = .ok (.invokevirtual 33, 3) := by decide +kernel
theorem d_N_add_30 : decode c_N_add 30 = .ok (.aload_n 1, 1) := by decide +kernel
theorem d_N_add_31 : decode c_N_add 31 = .ok (.iload 4, 2) := by decide +kernel
theorem d_N_add_33 : decode c_N_add 33 = .ok (.invokevirtual 33, 3) := by decide +kernel
theorem d_N_add_36 : decode c_N_add 36 = .ok (.iadd, 1) := by decide +kernel
theorem d_N_add_37 : decode c_N_add 37 = .ok (.iadd, 1) := by decide +kernel
theorem d_N_add_38 : decode c_N_add 38 = .ok (.istore_n 3, 1) := by decide +kernel
theorem d_N_add_39 : decode c_N_add 39 = .ok (.aload_n 0, 1) := by decide +kernel
theorem d_N_add_40 : decode c_N_add 40 = .ok (.getfield 9, 3) := by decide +kernel
theorem d_N_add_43 : decode c_N_add 43 = .ok (.iload 4, 2) := by decide +kernel
theorem d_N_add_45 : decode c_N_add 45 = .ok (.iload_n 3, 1) := by decide +kernel
theorem d_N_add_46 : decode c_N_add 46 = .ok (.ldc 17, 2) := by decide +kernel
theorem d_N_add_48 : decode c_N_add 48 = .ok (.iand, 1) := by decide +kernel
theorem d_N_add_49 : decode c_N_add 49 = .ok (.iastore, 1) := by decide +kernel
theorem d_N_add_50 : decode c_N_add 50 = .ok (.iload_n 3, 1) := by decide +kernel
theorem d_N_add_51 : decode c_N_add 51 = .ok (.bipush 30, 2) := by decide +kernel
theorem d_N_add_53 : decode c_N_add 53 = .ok (.iushr, 1) := by decide +kernel
theorem d_N_add_54 : decode c_N_add 54 = .ok (.istore_n 3, 1) := by decide +kernel
theorem d_N_add_55 : decode c_N_add 55 = .ok (.iinc 4 1, 3) := by decide +kernel
theorem d_N_add_58 : decode c_N_add 58 = .ok (.goto (-41), 3) := by decide +kernel
theorem d_N_add_61 : decode c_N_add 61 = .ok (.aload_n 0, 1) := by decide +kernel
theorem d_N_add_62 : decode c_N_add 62 = .ok (.iload_n 2, 1) := by decide +kernel
theorem d_N_add_63 : decode c_N_add 63 = .ok (.putfield 13, 3) := by decide +kernel
theorem d_N_add_66 : decode c_N_add 66 = .ok (.aload_n 0, 1) := by decide +kernel
theorem d_N_add_67 : decode c_N_add 67 = .ok (.iload_n 3, 1) := by decide +kernel
theorem d_N_add_68 : decode c_N_add 68 = .ok (.invokevirtual 37, 3) := by decide +kernel
theorem d_N_add_71 : decode c_N_add 71 = .ok (.return_, 1) := by decide +kernel
theorem zn_N_33 : zNV R_N 33 y_N_limbAt c_N_limbAt 2 (some .int) 1 := ⟨zco_N_limbAt, zin_N, zml_N_33, zim_N_limbAt, zse_N_N_limbAt, by decide +kernel⟩
theorem zn_N_37 : zNV R_N 37 y_N_append c_N_append 2 none 1 := ⟨zco_N_append, zin_N, zml_N_37, zim_N_append, zse_N_N_append, by decide +kernel⟩
set_option maxHeartbeats 4000000 in
set_option maxRecDepth 100000 in
theorem k_N_add (κ : zC) (X : zXT) (hX : zX κ X) (l : Launch) (a_t a_o a_t_limbs a_o_limbs : Nat) (sz : Nat) (t_used : Int32) (t_limbs : Nat → Int32) (o_used : Int32) (o_limbs : Nat → Int32) (out : (Int32) × (Nat → Int32)) (hf : f_N_add t_used t_limbs o_used o_limbs = some out) : zMet κ X l y_N_add c_N_add 5 none 1 21 [.ref a_t, .ref a_o] sz [(a_t, .inr (2, [.ref a_t_limbs, .int t_used])), (a_t_limbs, .inl (κ.2.1, 48, .inl t_limbs)), (a_o, .inr (2, [.ref a_o_limbs, .int o_used])), (a_o_limbs, .inl (κ.2.1, 48, .inl o_limbs))] (zQv κ (fun (u : (Int32) × (Nat → Int32)) => u = out) (fun u => [(a_t, .inr (2, [.ref a_t_limbs, .int u.1])), (a_t_limbs, .inl (κ.2.1, 48, .inl u.2)), (a_o, .inr (2, [.ref a_o_limbs, .int o_used])), (a_o_limbs, .inl (κ.2.1, 48, .inl o_limbs))])) := by
  refine zMet.ofV (by decide +kernel) (Nat.le_of_ble_eq_true rfl) ?_
  intro p e s m args below meth c ls A Q hF hK hP hD hA hXs hS hl hret
  obtain ⟨hx, hb, hml, hown, hts⟩ := id hF
  obtain ⟨H, hH⟩ : ∃ H, H = s.heap := ⟨_, rfl⟩
  obtain ⟨locs, hlo⟩ : ∃ z : List Loc, z = [] := ⟨_, rfl⟩
  replace hP : zP κ [(a_t, .inr (2, [.ref a_t_limbs, .int t_used])), (a_t_limbs, .inl (κ.2.1, 48, .inl t_limbs)), (a_o, .inr (2, [.ref a_o_limbs, .int o_used])), (a_o_limbs, .inl (κ.2.1, 48, .inl o_limbs))] H := by rw [hH]; exact hP
  replace hS : va_S A s.heap H locs := by rw [hH, hlo]; exact hS
  suffices hgo : W p l e (zR 1 21) s m args below meth c H locs 0 0 Q (F0 m 0 ls []) by rw [hH, hlo] at hgo; exact hgo
  clear hH hlo
  replace hl : lv_has ls 5 [(0, .ref a_t), (1, .ref a_o)] := hl
  have b_61 : ∀ (t_used : Int32) (t_limbs : Nat → Int32) (x2 : Int32) (x3 : Int32) (H : Heap) (locs : List Loc) (ls : Array Slot), f_N_add_61 t_used t_limbs o_used o_limbs x2 x3 = some out → zP κ [(a_t, .inr (2, [.ref a_t_limbs, .int t_used])), (a_t_limbs, .inl (κ.2.1, 48, .inl t_limbs)), (a_o, .inr (2, [.ref a_o_limbs, .int o_used])), (a_o_limbs, .inl (κ.2.1, 48, .inl o_limbs))] H → va_D A [(a_t, .inr (2, [.ref a_t_limbs, .int t_used])), (a_t_limbs, .inl (κ.2.1, 48, .inl t_limbs)), (a_o, .inr (2, [.ref a_o_limbs, .int o_used])), (a_o_limbs, .inl (κ.2.1, 48, .inl o_limbs))] → va_S A s.heap H locs → lv_has ls 5 [(0, .ref a_t), (2, .int x2), (3, .int x3)] → W p l e (zR 1 21) s m args below meth c H locs 0 0 Q (F0 m 61 ls []) := by
    intro t_used t_limbs x2 x3 H locs ls hf hP hD hS hl
    unfold f_N_add_61 at hf
    refine lv_aload_n hx hb d_N_add_61 rfl (lv_at hl 0 rfl) ?_
    refine lv_iload_n hx hb d_N_add_62 rfl (lv_at hl 1 rfl) ?_
    refine va_put (C := R_N) (T := F_N) (N := 2) hx hb hts i_N ty_N ty_N_ok n_N hown hK hP hD hS 0 rfl rfl 1 (by decide) (hts _ zfl_N_13) (fun _ h9 => h9) rfl (ty_N_ok 1 (by decide)) rfl rfl (Nat.le_of_ble_eq_true rfl) d_N_add_63 (fun H locs hP hD hS => ?_)
    have hP : zP κ [(a_t, .inr (2, [.ref a_t_limbs, .int x2])), (a_t_limbs, .inl (κ.2.1, 48, .inl t_limbs)), (a_o, .inr (2, [.ref a_o_limbs, .int o_used])), (a_o_limbs, .inl (κ.2.1, 48, .inl o_limbs))] H := hP
    have hD : va_D A [(a_t, .inr (2, [.ref a_t_limbs, .int x2])), (a_t_limbs, .inl (κ.2.1, 48, .inl t_limbs)), (a_o, .inr (2, [.ref a_o_limbs, .int o_used])), (a_o_limbs, .inl (κ.2.1, 48, .inl o_limbs))] := hD
    refine lv_aload_n hx hb d_N_add_66 rfl (lv_at hl 0 rfl) ?_
    refine lv_iload_n hx hb d_N_add_67 rfl (lv_at hl 2 rfl) ?_
    obtain ⟨o_68, ho_68, hf⟩ := zbd hf
    refine zVv (isC := [0, 1]) (isR := [2, 3]) (isN := [2, 3, 0, 1]) (wc := [(a_t, .inr (2, [.ref a_t_limbs, .int x2])), (a_t_limbs, .inl (κ.2.1, 48, .inl t_limbs))]) (wr := [(a_o, .inr (2, [.ref a_o_limbs, .int o_used])), (a_o_limbs, .inl (κ.2.1, 48, .inl o_limbs))]) (wn := fun u => [(a_t, .inr (2, [.ref a_t_limbs, .int u.1])), (a_t_limbs, .inl (κ.2.1, 48, .inl u.2)), (a_o, .inr (2, [.ref a_o_limbs, .int o_used])), (a_o_limbs, .inl (κ.2.1, 48, .inl o_limbs))]) (rest := []) (As := [.int x3]) hF zn_N_37 (k_N_append κ X hX l a_t a_t_limbs H.size x2 t_limbs x3 o_68 ho_68) hX hXs hK hA hP hD hS ⟨by decide, by decide⟩ ⟨rfl, rfl, rfl, rfl, rfl, by decide⟩ ⟨rfl, fun _ => rfl, fun _ => rfl⟩ (ci := 2) rfl rfl rfl rfl hl.1 rfl (Nat.le_of_ble_eq_true rfl) ⟨Nat.zero_le _, Nat.zero_le _⟩ d_N_add_68 (fun u H locs hw hP hD hS => ?_)
    obtain ⟨u68_t_used, u68_t_limbs⟩ := u
    have hP : zP κ [(a_t, .inr (2, [.ref a_t_limbs, .int u68_t_used])), (a_t_limbs, .inl (κ.2.1, 48, .inl u68_t_limbs)), (a_o, .inr (2, [.ref a_o_limbs, .int o_used])), (a_o_limbs, .inl (κ.2.1, 48, .inl o_limbs))] H := hP
    have hD : va_D A [(a_t, .inr (2, [.ref a_t_limbs, .int u68_t_used])), (a_t_limbs, .inl (κ.2.1, 48, .inl u68_t_limbs)), (a_o, .inr (2, [.ref a_o_limbs, .int o_used])), (a_o_limbs, .inl (κ.2.1, 48, .inl o_limbs))] := hD
    subst hw
    dsimp only at hf
    exact hret ((u68_t_used, u68_t_limbs)) H locs ls _ d_N_add_71 hP hD hS (Option.some.inj hf)
  have b_17 : ∀ (t_used : Int32) (t_limbs : Nat → Int32) (x2 : Int32) (x3 : Int32) (x4 : Int32) (H : Heap) (locs : List Loc) (ls : Array Slot), f_N_add_17 t_used t_limbs o_used o_limbs x2 x3 x4 = some out → zP κ [(a_t, .inr (2, [.ref a_t_limbs, .int t_used])), (a_t_limbs, .inl (κ.2.1, 48, .inl t_limbs)), (a_o, .inr (2, [.ref a_o_limbs, .int o_used])), (a_o_limbs, .inl (κ.2.1, 48, .inl o_limbs))] H → va_D A [(a_t, .inr (2, [.ref a_t_limbs, .int t_used])), (a_t_limbs, .inl (κ.2.1, 48, .inl t_limbs)), (a_o, .inr (2, [.ref a_o_limbs, .int o_used])), (a_o_limbs, .inl (κ.2.1, 48, .inl o_limbs))] → va_S A s.heap H locs → lv_has ls 5 [(0, .ref a_t), (1, .ref a_o), (2, .int x2), (3, .int x3), (4, .int x4)] → W p l e (zR 1 21) s m args below meth c H locs 0 0 Q (F0 m 17 ls []) := by
    intro t_used t_limbs x2 x3 x4 H locs ls hf hP hD hS hl
    refine zrun_ind (P := fun z : (Int32) × (Nat → Int32) × (Int32) × (Int32) => ∀ (H : Heap) (locs : List Loc) (ls : Array Slot), zP κ [(a_t, .inr (2, [.ref a_t_limbs, .int z.1])), (a_t_limbs, .inl (κ.2.1, 48, .inl z.2.1)), (a_o, .inr (2, [.ref a_o_limbs, .int o_used])), (a_o_limbs, .inl (κ.2.1, 48, .inl o_limbs))] H → va_D A [(a_t, .inr (2, [.ref a_t_limbs, .int z.1])), (a_t_limbs, .inl (κ.2.1, 48, .inl z.2.1)), (a_o, .inr (2, [.ref a_o_limbs, .int o_used])), (a_o_limbs, .inl (κ.2.1, 48, .inl o_limbs))] → va_S A s.heap H locs → lv_has ls 5 [(0, .ref a_t), (1, .ref a_o), (2, .int x2), (3, .int z.2.2.1), (4, .int z.2.2.2)] → W p l e (zR 1 21) s m args below meth c H locs 0 0 Q (F0 m 17 ls [])) ?_ hf H locs ls hP hD hS hl
    clear hf hP hD hS hl H locs ls t_used t_limbs x3 x4
    intro z ih hne hexit_17 H locs ls hP hD hS hl
    obtain ⟨q_17, hf⟩ := zne hne
    have hback_17 := fun y (e : q_17 = .inl y) => ih y (e ▸ hf)
    replace hexit_17 := fun y (e : q_17 = .inr y) => hexit_17 y (e ▸ hf)
    clear ih hne
    obtain ⟨t_used, t_limbs, x3, x4⟩ := z
    replace hf : f_N_add_17_body o_used o_limbs x2 t_used t_limbs x3 x4 = some q_17 := hf
    replace hP : zP κ [(a_t, .inr (2, [.ref a_t_limbs, .int t_used])), (a_t_limbs, .inl (κ.2.1, 48, .inl t_limbs)), (a_o, .inr (2, [.ref a_o_limbs, .int o_used])), (a_o_limbs, .inl (κ.2.1, 48, .inl o_limbs))] H := hP
    replace hD : va_D A [(a_t, .inr (2, [.ref a_t_limbs, .int t_used])), (a_t_limbs, .inl (κ.2.1, 48, .inl t_limbs)), (a_o, .inr (2, [.ref a_o_limbs, .int o_used])), (a_o_limbs, .inl (κ.2.1, 48, .inl o_limbs))] := hD
    replace hl : lv_has ls 5 [(0, .ref a_t), (1, .ref a_o), (2, .int x2), (3, .int x3), (4, .int x4)] := hl
    unfold f_N_add_17_body at hf
    refine lv_iload hx hb d_N_add_17 (lv_at hl 4 rfl) ?_
    refine lv_iload_n hx hb d_N_add_19 rfl (lv_at hl 2 rfl) ?_
    refine lv_icmp_ge (tgt := 61) hx hb d_N_add_20 (by decide) (fun c_20 => ?_) (fun c_20 => ?_)
    · have hf := (zbr hf).1 c_20
      have hf := zex hf hexit_17
      exact b_61 t_used t_limbs x2 x3 H locs ls hf hP hD hS (lv_sub hl [0, 2, 3] rfl)
    · have hf := (zbr hf).2 c_20
      refine lv_iload_n hx hb d_N_add_23 rfl (lv_at hl 3 rfl) ?_
      refine lv_aload_n hx hb d_N_add_24 rfl (lv_at hl 0 rfl) ?_
      refine lv_iload hx hb d_N_add_25 (lv_at hl 4 rfl) ?_
      obtain ⟨o_27, ho_27, hf⟩ := zbd hf
      refine zVi (isC := [0, 1]) (isR := [2, 3]) (isN := [2, 3, 0, 1]) (wc := [(a_t, .inr (2, [.ref a_t_limbs, .int t_used])), (a_t_limbs, .inl (κ.2.1, 48, .inl t_limbs))]) (wr := [(a_o, .inr (2, [.ref a_o_limbs, .int o_used])), (a_o_limbs, .inl (κ.2.1, 48, .inl o_limbs))]) (wn := fun u => [(a_t, .inr (2, [.ref a_t_limbs, .int t_used])), (a_t_limbs, .inl (κ.2.1, 48, .inl t_limbs)), (a_o, .inr (2, [.ref a_o_limbs, .int o_used])), (a_o_limbs, .inl (κ.2.1, 48, .inl o_limbs))]) (rest := [.int x3]) (As := [.int x4]) hF zn_N_33 (k_N_limbAt κ X hX l a_t a_t_limbs H.size t_used t_limbs x4 o_27 ho_27) hX hXs hK hA hP hD hS ⟨by decide, by decide⟩ ⟨rfl, rfl, rfl, rfl, rfl, by decide⟩ ⟨rfl, fun _ => rfl, fun _ => rfl⟩ (ci := 2) rfl rfl rfl rfl hl.1 rfl (Nat.le_of_ble_eq_true rfl) ⟨Nat.zero_le _, Nat.zero_le _⟩ d_N_add_27 (fun r_27 u H locs hw hP hD hS => ?_)
      subst hw
      refine lv_aload_n hx hb d_N_add_30 rfl (lv_at hl 1 rfl) ?_
      refine lv_iload hx hb d_N_add_31 (lv_at hl 4 rfl) ?_
      obtain ⟨o_33, ho_33, hf⟩ := zbd hf
      refine zVi (isC := [2, 3]) (isR := [0, 1]) (isN := [0, 1, 2, 3]) (wc := [(a_o, .inr (2, [.ref a_o_limbs, .int o_used])), (a_o_limbs, .inl (κ.2.1, 48, .inl o_limbs))]) (wr := [(a_t, .inr (2, [.ref a_t_limbs, .int t_used])), (a_t_limbs, .inl (κ.2.1, 48, .inl t_limbs))]) (wn := fun u => [(a_t, .inr (2, [.ref a_t_limbs, .int t_used])), (a_t_limbs, .inl (κ.2.1, 48, .inl t_limbs)), (a_o, .inr (2, [.ref a_o_limbs, .int o_used])), (a_o_limbs, .inl (κ.2.1, 48, .inl o_limbs))]) (rest := [.int r_27, .int x3]) (As := [.int x4]) hF zn_N_33 (k_N_limbAt κ X hX l a_o a_o_limbs H.size o_used o_limbs x4 o_33 ho_33) hX hXs hK hA hP hD hS ⟨by decide, by decide⟩ ⟨rfl, rfl, rfl, rfl, rfl, by decide⟩ ⟨rfl, fun _ => rfl, fun _ => rfl⟩ (ci := 2) rfl rfl rfl rfl hl.1 rfl (Nat.le_of_ble_eq_true rfl) ⟨Nat.zero_le _, Nat.zero_le _⟩ d_N_add_33 (fun r_33 u H locs hw hP hD hS => ?_)
      subst hw
      refine lv_iadd hx hb d_N_add_36 ?_
      refine lv_iadd hx hb d_N_add_37 ?_
      refine lv_istore_n (lv' := [(3, .int (x3 + (r_27 + r_33))), (0, .ref a_t), (1, .ref a_o), (2, .int x2), (4, .int x4)]) hx hb d_N_add_38 rfl hl (by decide) rfl (fun ls hl => ?_)
      refine lv_aload_n hx hb d_N_add_39 rfl (lv_at hl 1 rfl) ?_
      refine va_get (C := R_N) (T := F_N) (N := 2) hx hb hts i_N hown hK hP 0 rfl rfl 0 (by decide) (hts _ zfl_N_9) (fun _ h9 => h9) rfl d_N_add_40 ?_
      refine lv_iload hx hb d_N_add_43 (lv_at hl 4 rfl) ?_
      refine lv_iload_n hx hb d_N_add_45 rfl (lv_at hl 0 rfl) ?_
      refine lv_ldc (v := 1073741823) hx hb hown (hts _ zki_N_17) d_N_add_46 ?_
      refine lv_iand hx hb d_N_add_48 ?_
      obtain ⟨g_49, hf⟩ := zgd hf
      refine va_iast hx hb hK hP hD hS 1 0 rfl rfl (zin_vp g_49) d_N_add_49 (fun H locs hP hD hS => ?_)
      have hP : zP κ [(a_t, .inr (2, [.ref a_t_limbs, .int t_used])), (a_t_limbs, .inl (κ.2.1, 48, .inl (upd t_limbs x4.toNatClampNeg ((x3 + (r_27 + r_33)) &&& 1073741823)))), (a_o, .inr (2, [.ref a_o_limbs, .int o_used])), (a_o_limbs, .inl (κ.2.1, 48, .inl o_limbs))] H := hP
      have hD : va_D A [(a_t, .inr (2, [.ref a_t_limbs, .int t_used])), (a_t_limbs, .inl (κ.2.1, 48, .inl (upd t_limbs x4.toNatClampNeg ((x3 + (r_27 + r_33)) &&& 1073741823)))), (a_o, .inr (2, [.ref a_o_limbs, .int o_used])), (a_o_limbs, .inl (κ.2.1, 48, .inl o_limbs))] := hD
      refine lv_iload_n hx hb d_N_add_50 rfl (lv_at hl 0 rfl) ?_
      refine lv_bipush (v := 30) hx hb d_N_add_51 (by decide) ?_
      refine lv_iushr (v := (jushr (x3 + (r_27 + r_33)) 30)) hx hb d_N_add_53 rfl ?_
      refine lv_istore_n (lv' := [(3, .int (jushr (x3 + (r_27 + r_33)) 30)), (0, .ref a_t), (1, .ref a_o), (2, .int x2), (4, .int x4)]) hx hb d_N_add_54 rfl hl (by decide) rfl (fun ls hl => ?_)
      refine lv_iinc (v := (x4 + 1)) (lv' := [(4, .int (x4 + 1)), (3, .int (jushr (x3 + (r_27 + r_33)) 30)), (0, .ref a_t), (1, .ref a_o), (2, .int x2)]) hx hb d_N_add_55 hl (k := 4) rfl rfl (by decide) rfl (fun ls hl => ?_)
      refine lv_goto (tgt := 17) hx hb d_N_add_58 (by decide) ?_
      exact hback_17 _ (Option.some.inj hf).symm H locs ls hP hD hS (lv_sub hl [2, 3, 4, 1, 0] rfl)
  unfold f_N_add at hf
  refine lv_aload_n hx hb d_N_add_0 rfl (lv_at hl 0 rfl) ?_
  refine va_get (C := R_N) (T := F_N) (N := 2) hx hb hts i_N hown hK hP 0 rfl rfl 1 (by decide) (hts _ zfl_N_13) (fun _ h9 => h9) rfl d_N_add_1 ?_
  refine lv_aload_n hx hb d_N_add_4 rfl (lv_at hl 1 rfl) ?_
  refine va_get (C := R_N) (T := F_N) (N := 2) hx hb hts i_N hown hK hP 2 rfl rfl 1 (by decide) (hts _ zfl_N_13) (fun _ h9 => h9) rfl d_N_add_5 ?_
  refine va_mmax hx hb (hml.trans hl.1.symm) hown (hts _ zml_N_27) (hts _ zst_JM_max) (hts _ zin_JM) (hts _ zco_JM_max) (by decide) (Nat.le_of_ble_eq_true rfl) (Nat.zero_le _) (Nat.zero_le _) d_N_add_8 ?_
  refine lv_istore_n (lv' := [(2, .int (if t_used < o_used then o_used else t_used)), (0, .ref a_t), (1, .ref a_o)]) hx hb d_N_add_11 rfl hl (by decide) rfl (fun ls hl => ?_)
  refine lv_iconst (v := 0) hx hb d_N_add_12 (by decide) ?_
  refine lv_istore_n (lv' := [(3, .int 0), (2, .int (if t_used < o_used then o_used else t_used)), (0, .ref a_t), (1, .ref a_o)]) hx hb d_N_add_13 rfl hl (by decide) rfl (fun ls hl => ?_)
  refine lv_iconst (v := 0) hx hb d_N_add_14 (by decide) ?_
  refine lv_istore (lv' := [(4, .int 0), (3, .int 0), (2, .int (if t_used < o_used then o_used else t_used)), (0, .ref a_t), (1, .ref a_o)]) hx hb d_N_add_15 hl (by decide) rfl (fun ls hl => ?_)
  exact b_17 t_used t_limbs (if t_used < o_used then o_used else t_used) 0 0 H locs ls hf hP hD hS (lv_sub hl [3, 4, 2, 1, 0] rfl)
theorem d_N_multiplyAndAdd_0 : decode c_N_multiplyAndAdd 0 = .ok (.iload_n 2, 1) := by decide +kernel
theorem d_N_multiplyAndAdd_1 : decode c_N_multiplyAndAdd 1 = .ok (.i2l, 1) := by decide +kernel
theorem d_N_multiplyAndAdd_2 : decode c_N_multiplyAndAdd 2 = .ok (.lstore_n 3, 1) := by decide +kernel
theorem d_N_multiplyAndAdd_3 : decode c_N_multiplyAndAdd 3 = .ok (.iconst 0, 1) := by decide +kernel
theorem d_N_multiplyAndAdd_4 : decode c_N_multiplyAndAdd 4 = .ok (.istore 5, 2) := by decide +kernel
theorem d_N_multiplyAndAdd_6 : decode c_N_multiplyAndAdd 6 = .ok (.iload 5, 2) := by decide +kernel
theorem d_N_multiplyAndAdd_8 : decode c_N_multiplyAndAdd 8 = .ok (.aload_n 0, 1) := by decide +kernel
theorem d_N_multiplyAndAdd_9 : decode c_N_multiplyAndAdd 9 = .ok (.getfield 13, 3) := by decide +kernel
theorem d_N_multiplyAndAdd_12 : decode c_N_multiplyAndAdd 12 = .ok (.if_icmp .ge 40, 3) := by decide +kernel
theorem d_N_multiplyAndAdd_15 : decode c_N_multiplyAndAdd 15 = .ok (.lload_n 3, 1) := by decide +kernel
theorem d_N_multiplyAndAdd_16 : decode c_N_multiplyAndAdd 16 = .ok (.aload_n 0, 1) := by decide +kernel
theorem d_N_multiplyAndAdd_17 : decode c_N_multiplyAndAdd 17 = .ok (.getfield 9, 3) := by decide +kernel
theorem d_N_multiplyAndAdd_20 : decode c_N_multiplyAndAdd 20 = .ok (.iload 5, 2) := by decide +kernel
theorem d_N_multiplyAndAdd_22 : decode c_N_multiplyAndAdd 22 = .ok (.iaload, 1) := by decide +kernel
theorem d_N_multiplyAndAdd_23 : decode c_N_multiplyAndAdd 23 = .ok (.i2l, 1) := by decide +kernel
theorem d_N_multiplyAndAdd_24 : decode c_N_multiplyAndAdd 24 = .ok (.iload_n 1, 1) := by decide +kernel
theorem d_N_multiplyAndAdd_25 : decode c_N_multiplyAndAdd 25 = .ok (.i2l, 1) := by decide +kernel
theorem d_N_multiplyAndAdd_26 : decode c_N_multiplyAndAdd 26 = .ok (.lmul, 1) := by decide +kernel
theorem d_N_multiplyAndAdd_27 : decode c_N_multiplyAndAdd 27 = .ok (.ladd, 1) := by decide +kernel
theorem d_N_multiplyAndAdd_28 : decode c_N_multiplyAndAdd 28 = .ok (.lstore_n 3, 1) := by decide +kernel
theorem d_N_multiplyAndAdd_29 : decode c_N_multiplyAndAdd 29 = .ok (.aload_n 0, 1) := by decide +kernel
theorem d_N_multiplyAndAdd_30 : decode c_N_multiplyAndAdd 30 = .ok (.getfield 9, 3) := by decide +kernel
theorem d_N_multiplyAndAdd_33 : decode c_N_multiplyAndAdd 33 = .ok (.iload 5, 2) := by decide +kernel
theorem d_N_multiplyAndAdd_35 : decode c_N_multiplyAndAdd 35 = .ok (.lload_n 3, 1) := by decide +kernel
theorem d_N_multiplyAndAdd_36 : decode c_N_multiplyAndAdd 36 = .ok (.l2i, 1) := by decide +kernel
theorem d_N_multiplyAndAdd_37 : decode c_N_multiplyAndAdd 37 = .ok (.ldc 17, 2) := by decide +kernel
theorem d_N_multiplyAndAdd_39 : decode c_N_multiplyAndAdd 39 = .ok (.iand, 1) := by decide +kernel
theorem d_N_multiplyAndAdd_40 : decode c_N_multiplyAndAdd 40 = .ok (.iastore, 1) := by decide +kernel
theorem d_N_multiplyAndAdd_41 : decode c_N_multiplyAndAdd 41 = .ok (.lload_n 3, 1) := by decide +kernel
theorem d_N_multiplyAndAdd_42 : decode c_N_multiplyAndAdd 42 = .ok (.bipush 30, 2) := by decide +kernel
theorem d_N_multiplyAndAdd_44 : decode c_N_multiplyAndAdd 44 = .ok (.lushr, 1) := by decide +kernel
theorem d_N_multiplyAndAdd_45 : decode c_N_multiplyAndAdd 45 = .ok (.lstore_n 3, 1) := by decide +kernel
theorem d_N_multiplyAndAdd_46 : decode c_N_multiplyAndAdd 46 = .ok (.iinc 5 1, 3) := by decide +kernel
theorem d_N_multiplyAndAdd_49 : decode c_N_multiplyAndAdd 49 = .ok (.goto (-43), 3) := by decide +kernel
theorem d_N_multiplyAndAdd_52 : decode c_N_multiplyAndAdd 52 = .ok (.aload_n 0, 1) := by decide +kernel
theorem d_N_multiplyAndAdd_53 : decode c_N_multiplyAndAdd 53 = .ok (.lload_n 3, 1) := by decide +kernel
theorem d_N_multiplyAndAdd_54 : decode c_N_multiplyAndAdd 54 = .ok (.l2i, 1) := by decide +kernel
theorem d_N_multiplyAndAdd_55 : decode c_N_multiplyAndAdd 55 = .ok (.invokevirtual 37, 3) := by decide +kernel
theorem d_N_multiplyAndAdd_58 : decode c_N_multiplyAndAdd 58 = .ok (.return_, 1) := by decide +kernel
set_option maxHeartbeats 4000000 in
set_option maxRecDepth 100000 in
theorem k_N_multiplyAndAdd (κ : zC) (X : zXT) (hX : zX κ X) (l : Launch) (a_t a_t_limbs : Nat) (sz : Nat) (t_used : Int32) (t_limbs : Nat → Int32) (x1 : Int32) (x2 : Int32) (out : (Int32) × (Nat → Int32)) (hf : f_N_multiplyAndAdd t_used t_limbs x1 x2 = some out) : zMet κ X l y_N_multiplyAndAdd c_N_multiplyAndAdd 6 none 1 21 [.ref a_t, .int x1, .int x2] sz [(a_t, .inr (2, [.ref a_t_limbs, .int t_used])), (a_t_limbs, .inl (κ.2.1, 48, .inl t_limbs))] (zQv κ (fun (u : (Int32) × (Nat → Int32)) => u = out) (fun u => [(a_t, .inr (2, [.ref a_t_limbs, .int u.1])), (a_t_limbs, .inl (κ.2.1, 48, .inl u.2))])) := by
  refine zMet.ofV (by decide +kernel) (Nat.le_of_ble_eq_true rfl) ?_
  intro p e s m args below meth c ls A Q hF hK hP hD hA hXs hS hl hret
  obtain ⟨hx, hb, hml, hown, hts⟩ := id hF
  obtain ⟨H, hH⟩ : ∃ H, H = s.heap := ⟨_, rfl⟩
  obtain ⟨locs, hlo⟩ : ∃ z : List Loc, z = [] := ⟨_, rfl⟩
  replace hP : zP κ [(a_t, .inr (2, [.ref a_t_limbs, .int t_used])), (a_t_limbs, .inl (κ.2.1, 48, .inl t_limbs))] H := by rw [hH]; exact hP
  replace hS : va_S A s.heap H locs := by rw [hH, hlo]; exact hS
  suffices hgo : W p l e (zR 1 21) s m args below meth c H locs 0 0 Q (F0 m 0 ls []) by rw [hH, hlo] at hgo; exact hgo
  clear hH hlo
  replace hl : lv_has ls 6 [(0, .ref a_t), (1, .int x1), (2, .int x2)] := hl
  have b_52 : ∀ (t_used : Int32) (t_limbs : Nat → Int32) (x3 : Int64) (H : Heap) (locs : List Loc) (ls : Array Slot), f_N_multiplyAndAdd_52 t_used t_limbs x3 = some out → zP κ [(a_t, .inr (2, [.ref a_t_limbs, .int t_used])), (a_t_limbs, .inl (κ.2.1, 48, .inl t_limbs))] H → va_D A [(a_t, .inr (2, [.ref a_t_limbs, .int t_used])), (a_t_limbs, .inl (κ.2.1, 48, .inl t_limbs))] → va_S A s.heap H locs → lv_has ls 6 [(0, .ref a_t), (3, .long x3)] → W p l e (zR 1 21) s m args below meth c H locs 0 0 Q (F0 m 52 ls []) := by
    intro t_used t_limbs x3 H locs ls hf hP hD hS hl
    unfold f_N_multiplyAndAdd_52 at hf
    refine lv_aload_n hx hb d_N_multiplyAndAdd_52 rfl (lv_at hl 0 rfl) ?_
    refine lv_lload_n hx hb d_N_multiplyAndAdd_53 rfl (lv_at hl 1 rfl) ?_
    refine lv_l2i hx hb d_N_multiplyAndAdd_54 rfl ?_
    obtain ⟨o_55, ho_55, hf⟩ := zbd hf
    refine zVv (isC := [0, 1]) (isR := []) (isN := [0, 1]) (wc := [(a_t, .inr (2, [.ref a_t_limbs, .int t_used])), (a_t_limbs, .inl (κ.2.1, 48, .inl t_limbs))]) (wr := []) (wn := fun u => [(a_t, .inr (2, [.ref a_t_limbs, .int u.1])), (a_t_limbs, .inl (κ.2.1, 48, .inl u.2))]) (rest := []) (As := [.int (x3).toInt32]) hF zn_N_37 (k_N_append κ X hX l a_t a_t_limbs H.size t_used t_limbs ((x3).toInt32) o_55 ho_55) hX hXs hK hA hP hD hS ⟨by decide, by decide⟩ ⟨rfl, rfl, rfl, rfl, rfl, by decide⟩ ⟨rfl, fun _ => rfl, fun _ => rfl⟩ (ci := 2) rfl rfl rfl rfl hl.1 rfl (Nat.le_of_ble_eq_true rfl) ⟨Nat.zero_le _, Nat.zero_le _⟩ d_N_multiplyAndAdd_55 (fun u H locs hw hP hD hS => ?_)
    obtain ⟨u55_t_used, u55_t_limbs⟩ := u
    have hP : zP κ [(a_t, .inr (2, [.ref a_t_limbs, .int u55_t_used])), (a_t_limbs, .inl (κ.2.1, 48, .inl u55_t_limbs))] H := hP
    have hD : va_D A [(a_t, .inr (2, [.ref a_t_limbs, .int u55_t_used])), (a_t_limbs, .inl (κ.2.1, 48, .inl u55_t_limbs))] := hD
    subst hw
    dsimp only at hf
    exact hret ((u55_t_used, u55_t_limbs)) H locs ls _ d_N_multiplyAndAdd_58 hP hD hS (Option.some.inj hf)
  have b_6 : ∀ (t_used : Int32) (t_limbs : Nat → Int32) (x1 : Int32) (x3 : Int64) (x5 : Int32) (H : Heap) (locs : List Loc) (ls : Array Slot), f_N_multiplyAndAdd_6 t_used t_limbs x1 x3 x5 = some out → zP κ [(a_t, .inr (2, [.ref a_t_limbs, .int t_used])), (a_t_limbs, .inl (κ.2.1, 48, .inl t_limbs))] H → va_D A [(a_t, .inr (2, [.ref a_t_limbs, .int t_used])), (a_t_limbs, .inl (κ.2.1, 48, .inl t_limbs))] → va_S A s.heap H locs → lv_has ls 6 [(0, .ref a_t), (1, .int x1), (3, .long x3), (5, .int x5)] → W p l e (zR 1 21) s m args below meth c H locs 0 0 Q (F0 m 6 ls []) := by
    intro t_used t_limbs x1 x3 x5 H locs ls hf hP hD hS hl
    refine zrun_ind (P := fun z : (Int32) × (Nat → Int32) × (Int64) × (Int32) => ∀ (H : Heap) (locs : List Loc) (ls : Array Slot), zP κ [(a_t, .inr (2, [.ref a_t_limbs, .int z.1])), (a_t_limbs, .inl (κ.2.1, 48, .inl z.2.1))] H → va_D A [(a_t, .inr (2, [.ref a_t_limbs, .int z.1])), (a_t_limbs, .inl (κ.2.1, 48, .inl z.2.1))] → va_S A s.heap H locs → lv_has ls 6 [(0, .ref a_t), (1, .int x1), (3, .long z.2.2.1), (5, .int z.2.2.2)] → W p l e (zR 1 21) s m args below meth c H locs 0 0 Q (F0 m 6 ls [])) ?_ hf H locs ls hP hD hS hl
    clear hf hP hD hS hl H locs ls t_used t_limbs x3 x5
    intro z ih hne hexit_6 H locs ls hP hD hS hl
    obtain ⟨q_6, hf⟩ := zne hne
    have hback_6 := fun y (e : q_6 = .inl y) => ih y (e ▸ hf)
    replace hexit_6 := fun y (e : q_6 = .inr y) => hexit_6 y (e ▸ hf)
    clear ih hne
    obtain ⟨t_used, t_limbs, x3, x5⟩ := z
    replace hf : f_N_multiplyAndAdd_6_body x1 t_used t_limbs x3 x5 = some q_6 := hf
    replace hP : zP κ [(a_t, .inr (2, [.ref a_t_limbs, .int t_used])), (a_t_limbs, .inl (κ.2.1, 48, .inl t_limbs))] H := hP
    replace hD : va_D A [(a_t, .inr (2, [.ref a_t_limbs, .int t_used])), (a_t_limbs, .inl (κ.2.1, 48, .inl t_limbs))] := hD
    replace hl : lv_has ls 6 [(0, .ref a_t), (1, .int x1), (3, .long x3), (5, .int x5)] := hl
    unfold f_N_multiplyAndAdd_6_body at hf
    refine lv_iload hx hb d_N_multiplyAndAdd_6 (lv_at hl 3 rfl) ?_
    refine lv_aload_n hx hb d_N_multiplyAndAdd_8 rfl (lv_at hl 0 rfl) ?_
    refine va_get (C := R_N) (T := F_N) (N := 2) hx hb hts i_N hown hK hP 0 rfl rfl 1 (by decide) (hts _ zfl_N_13) (fun _ h9 => h9) rfl d_N_multiplyAndAdd_9 ?_
    refine lv_icmp_ge (tgt := 52) hx hb d_N_multiplyAndAdd_12 (by decide) (fun c_12 => ?_) (fun c_12 => ?_)
    · have hf := (zbr hf).1 c_12
      have hf := zex hf hexit_6
      exact b_52 t_used t_limbs x3 H locs ls hf hP hD hS (lv_sub hl [0, 2] rfl)
    · have hf := (zbr hf).2 c_12
      refine lv_lload_n hx hb d_N_multiplyAndAdd_15 rfl (lv_at hl 2 rfl) ?_
      refine lv_aload_n hx hb d_N_multiplyAndAdd_16 rfl (lv_at hl 0 rfl) ?_
      refine va_get (C := R_N) (T := F_N) (N := 2) hx hb hts i_N hown hK hP 0 rfl rfl 0 (by decide) (hts _ zfl_N_9) (fun _ h9 => h9) rfl d_N_multiplyAndAdd_17 ?_
      refine lv_iload hx hb d_N_multiplyAndAdd_20 (lv_at hl 3 rfl) ?_
      obtain ⟨g_22, hf⟩ := zgd hf
      refine va_iald hx hb hK hP 1 0 rfl rfl (zin_vp g_22) d_N_multiplyAndAdd_22 ?_
      refine lv_i2l hx hb d_N_multiplyAndAdd_23 rfl ?_
      refine lv_iload_n hx hb d_N_multiplyAndAdd_24 rfl (lv_at hl 1 rfl) ?_
      refine lv_i2l hx hb d_N_multiplyAndAdd_25 rfl ?_
      refine lv_lmul hx hb d_N_multiplyAndAdd_26 ?_
      refine lv_ladd hx hb d_N_multiplyAndAdd_27 ?_
      refine lv_lstore_n (lv' := [(3, .long (x3 + (((t_limbs x5.toNatClampNeg)).toInt64 * (x1).toInt64))), (0, .ref a_t), (1, .int x1), (5, .int x5)]) hx hb d_N_multiplyAndAdd_28 rfl hl (by decide) rfl (fun ls hl => ?_)
      refine lv_aload_n hx hb d_N_multiplyAndAdd_29 rfl (lv_at hl 1 rfl) ?_
      refine va_get (C := R_N) (T := F_N) (N := 2) hx hb hts i_N hown hK hP 0 rfl rfl 0 (by decide) (hts _ zfl_N_9) (fun _ h9 => h9) rfl d_N_multiplyAndAdd_30 ?_
      refine lv_iload hx hb d_N_multiplyAndAdd_33 (lv_at hl 3 rfl) ?_
      refine lv_lload_n hx hb d_N_multiplyAndAdd_35 rfl (lv_at hl 0 rfl) ?_
      refine lv_l2i hx hb d_N_multiplyAndAdd_36 rfl ?_
      refine lv_ldc (v := 1073741823) hx hb hown (hts _ zki_N_17) d_N_multiplyAndAdd_37 ?_
      refine lv_iand hx hb d_N_multiplyAndAdd_39 ?_
      obtain ⟨g_40, hf⟩ := zgd hf
      refine va_iast hx hb hK hP hD hS 1 0 rfl rfl (zin_vp g_40) d_N_multiplyAndAdd_40 (fun H locs hP hD hS => ?_)
      have hP : zP κ [(a_t, .inr (2, [.ref a_t_limbs, .int t_used])), (a_t_limbs, .inl (κ.2.1, 48, .inl (upd t_limbs x5.toNatClampNeg (((x3 + (((t_limbs x5.toNatClampNeg)).toInt64 * (x1).toInt64))).toInt32 &&& 1073741823))))] H := hP
      have hD : va_D A [(a_t, .inr (2, [.ref a_t_limbs, .int t_used])), (a_t_limbs, .inl (κ.2.1, 48, .inl (upd t_limbs x5.toNatClampNeg (((x3 + (((t_limbs x5.toNatClampNeg)).toInt64 * (x1).toInt64))).toInt32 &&& 1073741823))))] := hD
      refine lv_lload_n hx hb d_N_multiplyAndAdd_41 rfl (lv_at hl 0 rfl) ?_
      refine lv_bipush (v := 30) hx hb d_N_multiplyAndAdd_42 (by decide) ?_
      refine lv_lushr (v := (jlushr (x3 + (((t_limbs x5.toNatClampNeg)).toInt64 * (x1).toInt64)) 30)) hx hb d_N_multiplyAndAdd_44 rfl ?_
      refine lv_lstore_n (lv' := [(3, .long (jlushr (x3 + (((t_limbs x5.toNatClampNeg)).toInt64 * (x1).toInt64)) 30)), (0, .ref a_t), (1, .int x1), (5, .int x5)]) hx hb d_N_multiplyAndAdd_45 rfl hl (by decide) rfl (fun ls hl => ?_)
      refine lv_iinc (v := (x5 + 1)) (lv' := [(5, .int (x5 + 1)), (3, .long (jlushr (x3 + (((t_limbs x5.toNatClampNeg)).toInt64 * (x1).toInt64)) 30)), (0, .ref a_t), (1, .int x1)]) hx hb d_N_multiplyAndAdd_46 hl (k := 3) rfl rfl (by decide) rfl (fun ls hl => ?_)
      refine lv_goto (tgt := 6) hx hb d_N_multiplyAndAdd_49 (by decide) ?_
      exact hback_6 _ (Option.some.inj hf).symm H locs ls hP hD hS (lv_sub hl [2, 3, 1, 0] rfl)
  unfold f_N_multiplyAndAdd at hf
  refine lv_iload_n hx hb d_N_multiplyAndAdd_0 rfl (lv_at hl 2 rfl) ?_
  refine lv_i2l hx hb d_N_multiplyAndAdd_1 rfl ?_
  refine lv_lstore_n (lv' := [(3, .long (x2).toInt64), (0, .ref a_t), (1, .int x1), (2, .int x2)]) hx hb d_N_multiplyAndAdd_2 rfl hl (by decide) rfl (fun ls hl => ?_)
  refine lv_iconst (v := 0) hx hb d_N_multiplyAndAdd_3 (by decide) ?_
  refine lv_istore (lv' := [(5, .int 0), (3, .long (x2).toInt64), (0, .ref a_t), (1, .int x1), (2, .int x2)]) hx hb d_N_multiplyAndAdd_4 hl (by decide) rfl (fun ls hl => ?_)
  exact b_6 t_used t_limbs x1 ((x2).toInt64) 0 H locs ls hf hP hD hS (lv_sub hl [2, 3, 1, 0] rfl)
theorem d_N_multiplyByPowerOfTen_0 : decode c_N_multiplyByPowerOfTen 0 = .ok (.iload_n 1, 1) := by decide +kernel
theorem d_N_multiplyByPowerOfTen_1 : decode c_N_multiplyByPowerOfTen 1 = .ok (.istore_n 2, 1) := by decide +kernel
theorem d_N_multiplyByPowerOfTen_2 : decode c_N_multiplyByPowerOfTen 2 = .ok (.iload_n 2, 1) := by decide +kernel
theorem d_N_multiplyByPowerOfTen_3 : decode c_N_multiplyByPowerOfTen 3 = .ok (.ifCond .le 24, 3) := by decide +kernel
theorem d_N_multiplyByPowerOfTen_6 : decode c_N_multiplyByPowerOfTen 6 = .ok (.aload_n 0, 1) := by decide +kernel
theorem d_N_multiplyByPowerOfTen_7 : decode c_N_multiplyByPowerOfTen 7 = .ok (.getstatic 41, 3) := by decide +kernel
theorem d_N_multiplyByPowerOfTen_10 : decode c_N_multiplyByPowerOfTen 10 = .ok (.iload_n 2, 1) := by decide +kernel
theorem d_N_multiplyByPowerOfTen_11 : decode c_N_multiplyByPowerOfTen 11 = .ok (.bipush 9, 2) := by decide +kernel
theorem d_N_multiplyByPowerOfTen_13 : decode c_N_multiplyByPowerOfTen 13 = .ok (.invokestatic 44, 3) := by decide +kernel
theorem d_N_multiplyByPowerOfTen_16 : decode c_N_multiplyByPowerOfTen 16 = .ok (.iaload, 1) := by decide +kernel
theorem d_N_multiplyByPowerOfTen_17 : decode c_N_multiplyByPowerOfTen 17 = .ok (.iconst 0, 1) := by decide +kernel
theorem d_N_multiplyByPowerOfTen_18 : decode c_N_multiplyByPowerOfTen 18 = .ok (.invokevirtual 47, 3) := by decide +kernel
theorem d_N_multiplyByPowerOfTen_21 : decode c_N_multiplyByPowerOfTen 21 = .ok (.iinc 2 (-9), 3) := by decide +kernel
theorem d_N_multiplyByPowerOfTen_24 : decode c_N_multiplyByPowerOfTen 24 = .ok (.goto (-22), 3) := by decide +kernel
theorem d_N_multiplyByPowerOfTen_27 : decode c_N_multiplyByPowerOfTen 27 = .ok (.return_, 1) := by decide +kernel
theorem zn_N_47 : zNV R_N 47 y_N_multiplyAndAdd c_N_multiplyAndAdd 6 none 2 := ⟨zco_N_multiplyAndAdd, zin_N, zml_N_47, zim_N_multiplyAndAdd, zse_N_N_multiplyAndAdd, by decide +kernel⟩
set_option maxHeartbeats 4000000 in
set_option maxRecDepth 100000 in
theorem k_N_multiplyByPowerOfTen (κ : zC) (X : zXT) (hX : zX κ X) (l : Launch) (a_t a_t_limbs : Nat) (sz : Nat) (t_used : Int32) (t_limbs : Nat → Int32) (x1 : Int32) (out : (Int32) × (Nat → Int32)) (hf : f_N_multiplyByPowerOfTen t_used t_limbs x1 = some out) : zMet κ X l y_N_multiplyByPowerOfTen c_N_multiplyByPowerOfTen 3 none 2 46 [.ref a_t, .int x1] sz [(a_t, .inr (2, [.ref a_t_limbs, .int t_used])), (a_t_limbs, .inl (κ.2.1, 48, .inl t_limbs))] (zQv κ (fun (u : (Int32) × (Nat → Int32)) => u = out) (fun u => [(a_t, .inr (2, [.ref a_t_limbs, .int u.1])), (a_t_limbs, .inl (κ.2.1, 48, .inl u.2))])) := by
  refine zMet.ofV (by decide +kernel) (Nat.le_of_ble_eq_true rfl) ?_
  intro p e s m args below meth c ls A Q hF hK hP hD hA hXs hS hl hret
  obtain ⟨hx, hb, hml, hown, hts⟩ := id hF
  obtain ⟨H, hH⟩ : ∃ H, H = s.heap := ⟨_, rfl⟩
  obtain ⟨locs, hlo⟩ : ∃ z : List Loc, z = [] := ⟨_, rfl⟩
  replace hP : zP κ [(a_t, .inr (2, [.ref a_t_limbs, .int t_used])), (a_t_limbs, .inl (κ.2.1, 48, .inl t_limbs))] H := by rw [hH]; exact hP
  replace hS : va_S A s.heap H locs := by rw [hH, hlo]; exact hS
  suffices hgo : W p l e (zR 2 46) s m args below meth c H locs 0 0 Q (F0 m 0 ls []) by rw [hH, hlo] at hgo; exact hgo
  clear hH hlo
  replace hl : lv_has ls 3 [(0, .ref a_t), (1, .int x1)] := hl
  obtain ⟨av, hZ⟩ := hX.2
  obtain ⟨hpw, hpt, -, -, hst, hr0, hr1, hr2, hr3, hr4⟩ := hZ _ _ _ hXs
  have b_2 : ∀ (t_used : Int32) (t_limbs : Nat → Int32) (x2 : Int32) (H : Heap) (locs : List Loc) (ls : Array Slot), f_N_multiplyByPowerOfTen_2 t_used t_limbs x2 = some out → zP κ [(a_t, .inr (2, [.ref a_t_limbs, .int t_used])), (a_t_limbs, .inl (κ.2.1, 48, .inl t_limbs))] H → va_D A [(a_t, .inr (2, [.ref a_t_limbs, .int t_used])), (a_t_limbs, .inl (κ.2.1, 48, .inl t_limbs))] → va_S A s.heap H locs → lv_has ls 3 [(0, .ref a_t), (2, .int x2)] → W p l e (zR 2 46) s m args below meth c H locs 0 0 Q (F0 m 2 ls []) := by
    intro t_used t_limbs x2 H locs ls hf hP hD hS hl
    refine zrun_ind (P := fun z : (Int32) × (Nat → Int32) × (Int32) => ∀ (H : Heap) (locs : List Loc) (ls : Array Slot), zP κ [(a_t, .inr (2, [.ref a_t_limbs, .int z.1])), (a_t_limbs, .inl (κ.2.1, 48, .inl z.2.1))] H → va_D A [(a_t, .inr (2, [.ref a_t_limbs, .int z.1])), (a_t_limbs, .inl (κ.2.1, 48, .inl z.2.1))] → va_S A s.heap H locs → lv_has ls 3 [(0, .ref a_t), (2, .int z.2.2)] → W p l e (zR 2 46) s m args below meth c H locs 0 0 Q (F0 m 2 ls [])) ?_ hf H locs ls hP hD hS hl
    clear hf hP hD hS hl H locs ls t_used t_limbs x2
    intro z ih hne hexit_2 H locs ls hP hD hS hl
    obtain ⟨q_2, hf⟩ := zne hne
    have hback_2 := fun y (e : q_2 = .inl y) => ih y (e ▸ hf)
    replace hexit_2 := fun y (e : q_2 = .inr y) => hexit_2 y (e ▸ hf)
    clear ih hne
    obtain ⟨t_used, t_limbs, x2⟩ := z
    replace hf : f_N_multiplyByPowerOfTen_2_body t_used t_limbs x2 = some q_2 := hf
    replace hP : zP κ [(a_t, .inr (2, [.ref a_t_limbs, .int t_used])), (a_t_limbs, .inl (κ.2.1, 48, .inl t_limbs))] H := hP
    replace hD : va_D A [(a_t, .inr (2, [.ref a_t_limbs, .int t_used])), (a_t_limbs, .inl (κ.2.1, 48, .inl t_limbs))] := hD
    replace hl : lv_has ls 3 [(0, .ref a_t), (2, .int x2)] := hl
    unfold f_N_multiplyByPowerOfTen_2_body at hf
    refine lv_iload_n hx hb d_N_multiplyByPowerOfTen_2 rfl (lv_at hl 1 rfl) ?_
    refine lv_if_le (tgt := 27) hx hb d_N_multiplyByPowerOfTen_3 (by decide) (fun c_3 => ?_) (fun c_3 => ?_)
    · have hf := (zbr hf).1 c_3
      have hf := zex hf hexit_2
      exact hret ((t_used, t_limbs)) H locs ls _ d_N_multiplyByPowerOfTen_27 hP hD hS (Option.some.inj hf)
    · have hf := (zbr hf).2 c_3
      refine lv_aload_n hx hb d_N_multiplyByPowerOfTen_6 rfl (lv_at hl 0 rfl) ?_
      refine va_gets hx hb hpw hS hown (hts _ zfl_N_41) (fun _ h => h) d_N_multiplyByPowerOfTen_7 ?_
      refine lv_iload_n hx hb d_N_multiplyByPowerOfTen_10 rfl (lv_at hl 1 rfl) ?_
      refine lv_bipush (v := 9) hx hb d_N_multiplyByPowerOfTen_11 (by decide) ?_
      refine va_mmin hx hb (hml.trans hl.1.symm) hown (hts _ zml_N_44) (hts _ zst_JM_min) (hts _ zin_JM) (hts _ zco_JM_min) (by decide) (Nat.le_of_ble_eq_true rfl) (Nat.zero_le _) (Nat.zero_le _) d_N_multiplyByPowerOfTen_13 ?_
      obtain ⟨g_16, hf⟩ := zgd hf
      refine va_ti hx hb hpt hS (zin_vp g_16) rfl d_N_multiplyByPowerOfTen_16 ?_
      refine lv_iconst (v := 0) hx hb d_N_multiplyByPowerOfTen_17 (by decide) ?_
      obtain ⟨o_18, ho_18, hf⟩ := zbd hf
      refine zVv (isC := [0, 1]) (isR := []) (isN := [0, 1]) (wc := [(a_t, .inr (2, [.ref a_t_limbs, .int t_used])), (a_t_limbs, .inl (κ.2.1, 48, .inl t_limbs))]) (wr := []) (wn := fun u => [(a_t, .inr (2, [.ref a_t_limbs, .int u.1])), (a_t_limbs, .inl (κ.2.1, 48, .inl u.2))]) (rest := []) (As := [.int (zpow (if 9 < x2 then 9 else x2).toNatClampNeg), .int 0]) hF zn_N_47 (k_N_multiplyAndAdd κ X hX l a_t a_t_limbs H.size t_used t_limbs (zpow (if 9 < x2 then 9 else x2).toNatClampNeg) 0 o_18 ho_18) hX hXs hK hA hP hD hS ⟨by decide, by decide⟩ ⟨rfl, rfl, rfl, rfl, rfl, by decide⟩ ⟨rfl, fun _ => rfl, fun _ => rfl⟩ (ci := 2) rfl rfl rfl rfl hl.1 rfl (Nat.le_of_ble_eq_true rfl) ⟨Nat.zero_le _, Nat.zero_le _⟩ d_N_multiplyByPowerOfTen_18 (fun u H locs hw hP hD hS => ?_)
      obtain ⟨u18_t_used, u18_t_limbs⟩ := u
      have hP : zP κ [(a_t, .inr (2, [.ref a_t_limbs, .int u18_t_used])), (a_t_limbs, .inl (κ.2.1, 48, .inl u18_t_limbs))] H := hP
      have hD : va_D A [(a_t, .inr (2, [.ref a_t_limbs, .int u18_t_used])), (a_t_limbs, .inl (κ.2.1, 48, .inl u18_t_limbs))] := hD
      subst hw
      dsimp only at hf
      refine lv_iinc (v := (x2 + (-9))) (lv' := [(2, .int (x2 + (-9))), (0, .ref a_t)]) hx hb d_N_multiplyByPowerOfTen_21 hl (k := 1) rfl rfl (by decide) rfl (fun ls hl => ?_)
      refine lv_goto (tgt := 2) hx hb d_N_multiplyByPowerOfTen_24 (by decide) ?_
      exact hback_2 _ (Option.some.inj hf).symm H locs ls hP hD hS (lv_sub hl [1, 0] rfl)
  unfold f_N_multiplyByPowerOfTen at hf
  refine lv_iload_n hx hb d_N_multiplyByPowerOfTen_0 rfl (lv_at hl 1 rfl) ?_
  refine lv_istore_n (lv' := [(2, .int x1), (0, .ref a_t), (1, .int x1)]) hx hb d_N_multiplyByPowerOfTen_1 rfl hl (by decide) rfl (fun ls hl => ?_)
  exact b_2 t_used t_limbs x1 H locs ls hf hP hD hS (lv_sub hl [1, 0] rfl)
theorem d_N_shiftUp_0 : decode c_N_shiftUp 0 = .ok (.iload_n 1, 1) := by decide +kernel
theorem d_N_shiftUp_1 : decode c_N_shiftUp 1 = .ok (.ifCond .le 10, 3) := by decide +kernel
theorem d_N_shiftUp_4 : decode c_N_shiftUp 4 = .ok (.aload_n 0, 1) := by decide +kernel
theorem d_N_shiftUp_5 : decode c_N_shiftUp 5 = .ok (.getfield 13, 3) := by decide +kernel
theorem d_N_shiftUp_8 : decode c_N_shiftUp 8 = .ok (.ifCond .ne 4, 3) := by decide +kernel
theorem d_N_shiftUp_11 : decode c_N_shiftUp 11 = .ok (.return_, 1) := by decide +kernel
theorem d_N_shiftUp_12 : decode c_N_shiftUp 12 = .ok (.iload_n 1, 1) := by decide +kernel
theorem d_N_shiftUp_13 : decode c_N_shiftUp 13 = .ok (.bipush 30, 2) := by decide +kernel
theorem d_N_shiftUp_15 : decode c_N_shiftUp 15 = .ok (.idiv, 1) := by decide +kernel
theorem d_N_shiftUp_16 : decode c_N_shiftUp 16 = .ok (.istore_n 2, 1) := by decide +kernel
theorem d_N_shiftUp_17 : decode c_N_shiftUp 17 = .ok (.iload_n 1, 1) := by decide +kernel
theorem d_N_shiftUp_18 : decode c_N_shiftUp 18 = .ok (.bipush 30, 2) := by decide +kernel
theorem d_N_shiftUp_20 : decode c_N_shiftUp 20 = .ok (.irem, 1) := by decide +kernel
theorem d_N_shiftUp_21 : decode c_N_shiftUp 21 = .ok (.istore_n 3, 1) := by decide +kernel
theorem d_N_shiftUp_22 : decode c_N_shiftUp 22 = .ok (.aload_n 0, 1) := by decide +kernel
theorem d_N_shiftUp_23 : decode c_N_shiftUp 23 = .ok (.getfield 13, 3) := by decide +kernel
theorem d_N_shiftUp_26 : decode c_N_shiftUp 26 = .ok (.iload_n 2, 1) := by decide +kernel
theorem d_N_shiftUp_27 : decode c_N_shiftUp 27 = .ok (.iadd, 1) := by decide +kernel
theorem d_N_shiftUp_28 : decode c_N_shiftUp 28 = .ok (.iconst 1, 1) := by decide +kernel
theorem d_N_shiftUp_29 : decode c_N_shiftUp 29 = .ok (.iadd, 1) := by decide +kernel
theorem d_N_shiftUp_30 : decode c_N_shiftUp 30 = .ok (.bipush 48, 2) := by decide +kernel
theorem d_N_shiftUp_32 : decode c_N_shiftUp 32 = .ok (.invokestatic 44, 3) := by decide +kernel
theorem d_N_shiftUp_35 : decode c_N_shiftUp 35 = .ok (.istore 4, 2) := by decide +kernel
theorem d_N_shiftUp_37 : decode c_N_shiftUp 37 = .ok (.iload 4, 2) := by decide +kernel
theorem d_N_shiftUp_39 : decode c_N_shiftUp 39 = .ok (.iconst 1, 1) := by decide +kernel
theorem d_N_shiftUp_40 : decode c_N_shiftUp 40 = .ok (.isub, 1) := by decide +kernel
theorem d_N_shiftUp_41 : decode c_N_shiftUp 41 = .ok (.istore 5, 2) := by decide +kernel
theorem d_N_shiftUp_43 : decode c_N_shiftUp 43 = .ok (.iload 5, 2) := by decide +kernel
theorem d_N_shiftUp_45 : decode c_N_shiftUp 45 = .ok (.ifCond .lt 45, 3) := by decide +kernel
theorem d_N_shiftUp_48 : decode c_N_shiftUp 48 = .ok (.aload_n 0, 1) := by decide +kernel
theorem d_N_shiftUp_49 : decode c_N_shiftUp 49 = .ok (.getfield 9, 3) := by decide +kernel
theorem d_N_shiftUp_52 : decode c_N_shiftUp 52 = .ok (.iload 5, 2) := by decide +kernel
theorem d_N_shiftUp_54 : decode c_N_shiftUp 54 = .ok (.aload_n 0, 1) := by decide +kernel
theorem d_N_shiftUp_55 : decode c_N_shiftUp 55 = .ok (.iload 5, 2) := by decide +kernel
theorem d_N_shiftUp_57 : decode c_N_shiftUp 57 = .ok (.iload_n 2, 1) := by decide +kernel
theorem d_N_shiftUp_58 : decode c_N_shiftUp 58 = .ok (.isub, 1) := by decide +kernel
theorem d_N_shiftUp_59 : decode c_N_shiftUp 59 = .ok (.invokevirtual 33, 3) := by decide +kernel
theorem d_N_shiftUp_62 : decode c_N_shiftUp 62 = .ok (.iload_n 3, 1) := by decide +kernel
theorem d_N_shiftUp_63 : decode c_N_shiftUp 63 = .ok (.ishl, 1) := by decide +kernel
theorem d_N_shiftUp_64 : decode c_N_shiftUp 64 = .ok (.aload_n 0, 1) := by decide +kernel
theorem d_N_shiftUp_65 : decode c_N_shiftUp 65 = .ok (.iload 5, 2) := by decide +kernel
theorem d_N_shiftUp_67 : decode c_N_shiftUp 67 = .ok (.iload_n 2, 1) := by decide +kernel
theorem d_N_shiftUp_68 : decode c_N_shiftUp 68 = .ok (.isub, 1) := by decide +kernel
theorem d_N_shiftUp_69 : decode c_N_shiftUp 69 = .ok (.iconst 1, 1) := by decide +kernel
theorem d_N_shiftUp_70 : decode c_N_shiftUp 70 = .ok (.isub, 1) := by decide +kernel
theorem d_N_shiftUp_71 : decode c_N_shiftUp 71 = .ok (.invokevirtual 33, 3) := by decide +kernel
theorem d_N_shiftUp_74 : decode c_N_shiftUp 74 = .ok (.bipush 30, 2) := by decide +kernel
theorem d_N_shiftUp_76 : decode c_N_shiftUp 76 = .ok (.iload_n 3, 1) := by decide +kernel
theorem d_N_shiftUp_77 : decode c_N_shiftUp 77 = .ok (.isub, 1) := by decide +kernel
theorem d_N_shiftUp_78 : decode c_N_shiftUp 78 = .ok (.iushr, 1) := by decide +kernel
theorem d_N_shiftUp_79 : decode c_N_shiftUp 79 = .ok (.ior, 1) := by decide +kernel
theorem d_N_shiftUp_80 : decode c_N_shiftUp 80 = .ok (.ldc 17, 2) := by decide +kernel
theorem d_N_shiftUp_82 : decode c_N_shiftUp 82 = .ok (.iand, 1) := by decide +kernel
theorem d_N_shiftUp_83 : decode c_N_shiftUp 83 = .ok (.iastore, 1) := by decide +kernel
theorem d_N_shiftUp_84 : decode c_N_shiftUp 84 = .ok (.iinc 5 (-1), 3) := by decide +kernel
theorem d_N_shiftUp_87 : decode c_N_shiftUp 87 = .ok (.goto (-44), 3) := by decide +kernel
theorem d_N_shiftUp_90 : decode c_N_shiftUp 90 = .ok (.aload_n 0, 1) := by decide +kernel
theorem d_N_shiftUp_91 : decode c_N_shiftUp 91 = .ok (.iload 4, 2) := by decide +kernel
theorem d_N_shiftUp_93 : decode c_N_shiftUp 93 = .ok (.putfield 13, 3) := by decide +kernel
theorem d_N_shiftUp_96 : decode c_N_shiftUp 96 = .ok (.aload_n 0, 1) := by decide +kernel
theorem d_N_shiftUp_97 : decode c_N_shiftUp 97 = .ok (.invokevirtual 18, 3) := by decide +kernel
theorem d_N_shiftUp_100 : decode c_N_shiftUp 100 = .ok (.return_, 1) := by decide +kernel
set_option maxHeartbeats 4000000 in
set_option maxRecDepth 100000 in
theorem k_N_shiftUp (κ : zC) (X : zXT) (hX : zX κ X) (l : Launch) (a_t a_t_limbs : Nat) (sz : Nat) (t_used : Int32) (t_limbs : Nat → Int32) (x1 : Int32) (out : (Int32) × (Nat → Int32)) (hf : f_N_shiftUp t_used t_limbs x1 = some out) : zMet κ X l y_N_shiftUp c_N_shiftUp 6 none 1 21 [.ref a_t, .int x1] sz [(a_t, .inr (2, [.ref a_t_limbs, .int t_used])), (a_t_limbs, .inl (κ.2.1, 48, .inl t_limbs))] (zQv κ (fun (u : (Int32) × (Nat → Int32)) => u = out) (fun u => [(a_t, .inr (2, [.ref a_t_limbs, .int u.1])), (a_t_limbs, .inl (κ.2.1, 48, .inl u.2))])) := by
  refine zMet.ofV (by decide +kernel) (Nat.le_of_ble_eq_true rfl) ?_
  intro p e s m args below meth c ls A Q hF hK hP hD hA hXs hS hl hret
  obtain ⟨hx, hb, hml, hown, hts⟩ := id hF
  obtain ⟨H, hH⟩ : ∃ H, H = s.heap := ⟨_, rfl⟩
  obtain ⟨locs, hlo⟩ : ∃ z : List Loc, z = [] := ⟨_, rfl⟩
  replace hP : zP κ [(a_t, .inr (2, [.ref a_t_limbs, .int t_used])), (a_t_limbs, .inl (κ.2.1, 48, .inl t_limbs))] H := by rw [hH]; exact hP
  replace hS : va_S A s.heap H locs := by rw [hH, hlo]; exact hS
  suffices hgo : W p l e (zR 1 21) s m args below meth c H locs 0 0 Q (F0 m 0 ls []) by rw [hH, hlo] at hgo; exact hgo
  clear hH hlo
  replace hl : lv_has ls 6 [(0, .ref a_t), (1, .int x1)] := hl
  have b_90 : ∀ (t_used : Int32) (t_limbs : Nat → Int32) (x4 : Int32) (H : Heap) (locs : List Loc) (ls : Array Slot), f_N_shiftUp_90 t_used t_limbs x4 = some out → zP κ [(a_t, .inr (2, [.ref a_t_limbs, .int t_used])), (a_t_limbs, .inl (κ.2.1, 48, .inl t_limbs))] H → va_D A [(a_t, .inr (2, [.ref a_t_limbs, .int t_used])), (a_t_limbs, .inl (κ.2.1, 48, .inl t_limbs))] → va_S A s.heap H locs → lv_has ls 6 [(0, .ref a_t), (4, .int x4)] → W p l e (zR 1 21) s m args below meth c H locs 0 0 Q (F0 m 90 ls []) := by
    intro t_used t_limbs x4 H locs ls hf hP hD hS hl
    unfold f_N_shiftUp_90 at hf
    refine lv_aload_n hx hb d_N_shiftUp_90 rfl (lv_at hl 0 rfl) ?_
    refine lv_iload hx hb d_N_shiftUp_91 (lv_at hl 1 rfl) ?_
    refine va_put (C := R_N) (T := F_N) (N := 2) hx hb hts i_N ty_N ty_N_ok n_N hown hK hP hD hS 0 rfl rfl 1 (by decide) (hts _ zfl_N_13) (fun _ h9 => h9) rfl (ty_N_ok 1 (by decide)) rfl rfl (Nat.le_of_ble_eq_true rfl) d_N_shiftUp_93 (fun H locs hP hD hS => ?_)
    have hP : zP κ [(a_t, .inr (2, [.ref a_t_limbs, .int x4])), (a_t_limbs, .inl (κ.2.1, 48, .inl t_limbs))] H := hP
    have hD : va_D A [(a_t, .inr (2, [.ref a_t_limbs, .int x4])), (a_t_limbs, .inl (κ.2.1, 48, .inl t_limbs))] := hD
    refine lv_aload_n hx hb d_N_shiftUp_96 rfl (lv_at hl 0 rfl) ?_
    obtain ⟨o_97, ho_97, hf⟩ := zbd hf
    refine zVv (isC := [0, 1]) (isR := []) (isN := [0, 1]) (wc := [(a_t, .inr (2, [.ref a_t_limbs, .int x4])), (a_t_limbs, .inl (κ.2.1, 48, .inl t_limbs))]) (wr := []) (wn := fun u => [(a_t, .inr (2, [.ref a_t_limbs, .int u])), (a_t_limbs, .inl (κ.2.1, 48, .inl t_limbs))]) (rest := []) (As := []) hF zn_N_18 (k_N_dropLeadingZeros κ X hX l a_t a_t_limbs H.size x4 t_limbs o_97 ho_97) hX hXs hK hA hP hD hS ⟨by decide, by decide⟩ ⟨rfl, rfl, rfl, rfl, rfl, by decide⟩ ⟨rfl, fun _ => rfl, fun _ => rfl⟩ (ci := 2) rfl rfl rfl rfl hl.1 rfl (Nat.le_of_ble_eq_true rfl) ⟨Nat.zero_le _, Nat.zero_le _⟩ d_N_shiftUp_97 (fun u H locs hw hP hD hS => ?_)
    obtain ⟨u97_t_used, rfl⟩ : ∃ z, z = u := ⟨_, rfl⟩
    have hP : zP κ [(a_t, .inr (2, [.ref a_t_limbs, .int u97_t_used])), (a_t_limbs, .inl (κ.2.1, 48, .inl t_limbs))] H := hP
    have hD : va_D A [(a_t, .inr (2, [.ref a_t_limbs, .int u97_t_used])), (a_t_limbs, .inl (κ.2.1, 48, .inl t_limbs))] := hD
    subst hw
    exact hret ((u97_t_used, t_limbs)) H locs ls _ d_N_shiftUp_100 hP hD hS (Option.some.inj hf)
  have b_43 : ∀ (t_used : Int32) (t_limbs : Nat → Int32) (x2 : Int32) (x3 : Int32) (x4 : Int32) (x5 : Int32) (H : Heap) (locs : List Loc) (ls : Array Slot), f_N_shiftUp_43 t_used t_limbs x2 x3 x4 x5 = some out → zP κ [(a_t, .inr (2, [.ref a_t_limbs, .int t_used])), (a_t_limbs, .inl (κ.2.1, 48, .inl t_limbs))] H → va_D A [(a_t, .inr (2, [.ref a_t_limbs, .int t_used])), (a_t_limbs, .inl (κ.2.1, 48, .inl t_limbs))] → va_S A s.heap H locs → lv_has ls 6 [(0, .ref a_t), (2, .int x2), (3, .int x3), (4, .int x4), (5, .int x5)] → W p l e (zR 1 21) s m args below meth c H locs 0 0 Q (F0 m 43 ls []) := by
    intro t_used t_limbs x2 x3 x4 x5 H locs ls hf hP hD hS hl
    refine zrun_ind (P := fun z : (Int32) × (Nat → Int32) × (Int32) => ∀ (H : Heap) (locs : List Loc) (ls : Array Slot), zP κ [(a_t, .inr (2, [.ref a_t_limbs, .int z.1])), (a_t_limbs, .inl (κ.2.1, 48, .inl z.2.1))] H → va_D A [(a_t, .inr (2, [.ref a_t_limbs, .int z.1])), (a_t_limbs, .inl (κ.2.1, 48, .inl z.2.1))] → va_S A s.heap H locs → lv_has ls 6 [(0, .ref a_t), (2, .int x2), (3, .int x3), (4, .int x4), (5, .int z.2.2)] → W p l e (zR 1 21) s m args below meth c H locs 0 0 Q (F0 m 43 ls [])) ?_ hf H locs ls hP hD hS hl
    clear hf hP hD hS hl H locs ls t_used t_limbs x5
    intro z ih hne hexit_43 H locs ls hP hD hS hl
    obtain ⟨q_43, hf⟩ := zne hne
    have hback_43 := fun y (e : q_43 = .inl y) => ih y (e ▸ hf)
    replace hexit_43 := fun y (e : q_43 = .inr y) => hexit_43 y (e ▸ hf)
    clear ih hne
    obtain ⟨t_used, t_limbs, x5⟩ := z
    replace hf : f_N_shiftUp_43_body x2 x3 x4 t_used t_limbs x5 = some q_43 := hf
    replace hP : zP κ [(a_t, .inr (2, [.ref a_t_limbs, .int t_used])), (a_t_limbs, .inl (κ.2.1, 48, .inl t_limbs))] H := hP
    replace hD : va_D A [(a_t, .inr (2, [.ref a_t_limbs, .int t_used])), (a_t_limbs, .inl (κ.2.1, 48, .inl t_limbs))] := hD
    replace hl : lv_has ls 6 [(0, .ref a_t), (2, .int x2), (3, .int x3), (4, .int x4), (5, .int x5)] := hl
    unfold f_N_shiftUp_43_body at hf
    refine lv_iload hx hb d_N_shiftUp_43 (lv_at hl 4 rfl) ?_
    refine lv_if_lt (tgt := 90) hx hb d_N_shiftUp_45 (by decide) (fun c_45 => ?_) (fun c_45 => ?_)
    · have hf := (zbr hf).1 c_45
      have hf := zex hf hexit_43
      exact b_90 t_used t_limbs x4 H locs ls hf hP hD hS (lv_sub hl [0, 3] rfl)
    · have hf := (zbr hf).2 c_45
      refine lv_aload_n hx hb d_N_shiftUp_48 rfl (lv_at hl 0 rfl) ?_
      refine va_get (C := R_N) (T := F_N) (N := 2) hx hb hts i_N hown hK hP 0 rfl rfl 0 (by decide) (hts _ zfl_N_9) (fun _ h9 => h9) rfl d_N_shiftUp_49 ?_
      refine lv_iload hx hb d_N_shiftUp_52 (lv_at hl 4 rfl) ?_
      refine lv_aload_n hx hb d_N_shiftUp_54 rfl (lv_at hl 0 rfl) ?_
      refine lv_iload hx hb d_N_shiftUp_55 (lv_at hl 4 rfl) ?_
      refine lv_iload_n hx hb d_N_shiftUp_57 rfl (lv_at hl 1 rfl) ?_
      refine lv_isub hx hb d_N_shiftUp_58 ?_
      obtain ⟨o_59, ho_59, hf⟩ := zbd hf
      refine zVi (isC := [0, 1]) (isR := []) (isN := [0, 1]) (wc := [(a_t, .inr (2, [.ref a_t_limbs, .int t_used])), (a_t_limbs, .inl (κ.2.1, 48, .inl t_limbs))]) (wr := []) (wn := fun u => [(a_t, .inr (2, [.ref a_t_limbs, .int t_used])), (a_t_limbs, .inl (κ.2.1, 48, .inl t_limbs))]) (rest := [.int x5, .ref a_t_limbs]) (As := [.int (x5 - x2)]) hF zn_N_33 (k_N_limbAt κ X hX l a_t a_t_limbs H.size t_used t_limbs (x5 - x2) o_59 ho_59) hX hXs hK hA hP hD hS ⟨by decide, by decide⟩ ⟨rfl, rfl, rfl, rfl, rfl, by decide⟩ ⟨rfl, fun _ => rfl, fun _ => rfl⟩ (ci := 2) rfl rfl rfl rfl hl.1 rfl (Nat.le_of_ble_eq_true rfl) ⟨Nat.zero_le _, Nat.zero_le _⟩ d_N_shiftUp_59 (fun r_59 u H locs hw hP hD hS => ?_)
      subst hw
      refine lv_iload_n hx hb d_N_shiftUp_62 rfl (lv_at hl 2 rfl) ?_
      refine lv_ishl hx hb d_N_shiftUp_63 ?_
      refine lv_aload_n hx hb d_N_shiftUp_64 rfl (lv_at hl 0 rfl) ?_
      refine lv_iload hx hb d_N_shiftUp_65 (lv_at hl 4 rfl) ?_
      refine lv_iload_n hx hb d_N_shiftUp_67 rfl (lv_at hl 1 rfl) ?_
      refine lv_isub hx hb d_N_shiftUp_68 ?_
      refine lv_iconst (v := 1) hx hb d_N_shiftUp_69 (by decide) ?_
      refine lv_isub hx hb d_N_shiftUp_70 ?_
      obtain ⟨o_71, ho_71, hf⟩ := zbd hf
      refine zVi (isC := [0, 1]) (isR := []) (isN := [0, 1]) (wc := [(a_t, .inr (2, [.ref a_t_limbs, .int t_used])), (a_t_limbs, .inl (κ.2.1, 48, .inl t_limbs))]) (wr := []) (wn := fun u => [(a_t, .inr (2, [.ref a_t_limbs, .int t_used])), (a_t_limbs, .inl (κ.2.1, 48, .inl t_limbs))]) (rest := [.int (jshl r_59 x3), .int x5, .ref a_t_limbs]) (As := [.int ((x5 - x2) - 1)]) hF zn_N_33 (k_N_limbAt κ X hX l a_t a_t_limbs H.size t_used t_limbs ((x5 - x2) - 1) o_71 ho_71) hX hXs hK hA hP hD hS ⟨by decide, by decide⟩ ⟨rfl, rfl, rfl, rfl, rfl, by decide⟩ ⟨rfl, fun _ => rfl, fun _ => rfl⟩ (ci := 2) rfl rfl rfl rfl hl.1 rfl (Nat.le_of_ble_eq_true rfl) ⟨Nat.zero_le _, Nat.zero_le _⟩ d_N_shiftUp_71 (fun r_71 u H locs hw hP hD hS => ?_)
      subst hw
      refine lv_bipush (v := 30) hx hb d_N_shiftUp_74 (by decide) ?_
      refine lv_iload_n hx hb d_N_shiftUp_76 rfl (lv_at hl 2 rfl) ?_
      refine lv_isub hx hb d_N_shiftUp_77 ?_
      refine lv_iushr (v := (jushr r_71 (30 - x3))) hx hb d_N_shiftUp_78 rfl ?_
      refine lv_ior hx hb d_N_shiftUp_79 ?_
      refine lv_ldc (v := 1073741823) hx hb hown (hts _ zki_N_17) d_N_shiftUp_80 ?_
      refine lv_iand hx hb d_N_shiftUp_82 ?_
      obtain ⟨g_83, hf⟩ := zgd hf
      refine va_iast hx hb hK hP hD hS 1 0 rfl rfl (zin_vp g_83) d_N_shiftUp_83 (fun H locs hP hD hS => ?_)
      have hP : zP κ [(a_t, .inr (2, [.ref a_t_limbs, .int t_used])), (a_t_limbs, .inl (κ.2.1, 48, .inl (upd t_limbs x5.toNatClampNeg (((jshl r_59 x3) ||| (jushr r_71 (30 - x3))) &&& 1073741823))))] H := hP
      have hD : va_D A [(a_t, .inr (2, [.ref a_t_limbs, .int t_used])), (a_t_limbs, .inl (κ.2.1, 48, .inl (upd t_limbs x5.toNatClampNeg (((jshl r_59 x3) ||| (jushr r_71 (30 - x3))) &&& 1073741823))))] := hD
      refine lv_iinc (v := (x5 + (-1))) (lv' := [(5, .int (x5 + (-1))), (0, .ref a_t), (2, .int x2), (3, .int x3), (4, .int x4)]) hx hb d_N_shiftUp_84 hl (k := 4) rfl rfl (by decide) rfl (fun ls hl => ?_)
      refine lv_goto (tgt := 43) hx hb d_N_shiftUp_87 (by decide) ?_
      exact hback_43 _ (Option.some.inj hf).symm H locs ls hP hD hS (lv_sub hl [1, 2, 3, 4, 0] rfl)
  unfold f_N_shiftUp at hf
  refine lv_iload_n hx hb d_N_shiftUp_0 rfl (lv_at hl 1 rfl) ?_
  refine lv_if_le (tgt := 11) hx hb d_N_shiftUp_1 (by decide) (fun c_1 => ?_) (fun c_1 => ?_)
  · have hf := (zbr hf).1 c_1
    exact hret ((t_used, t_limbs)) H locs ls _ d_N_shiftUp_11 hP hD hS (Option.some.inj hf)
  · have hf := (zbr hf).2 c_1
    refine lv_aload_n hx hb d_N_shiftUp_4 rfl (lv_at hl 0 rfl) ?_
    refine va_get (C := R_N) (T := F_N) (N := 2) hx hb hts i_N hown hK hP 0 rfl rfl 1 (by decide) (hts _ zfl_N_13) (fun _ h9 => h9) rfl d_N_shiftUp_5 ?_
    refine lv_if_ne (tgt := 12) hx hb d_N_shiftUp_8 (by decide) (fun c_8 => ?_) (fun c_8 => ?_)
    · have hf := (zbr hf).2 c_8
      refine lv_iload_n hx hb d_N_shiftUp_12 rfl (lv_at hl 1 rfl) ?_
      refine lv_bipush (v := 30) hx hb d_N_shiftUp_13 (by decide) ?_
      refine lv_idiv hx hb d_N_shiftUp_15 (by decide) ?_
      refine lv_istore_n (lv' := [(2, .int (x1 / 30)), (0, .ref a_t), (1, .int x1)]) hx hb d_N_shiftUp_16 rfl hl (by decide) rfl (fun ls hl => ?_)
      refine lv_iload_n hx hb d_N_shiftUp_17 rfl (lv_at hl 2 rfl) ?_
      refine lv_bipush (v := 30) hx hb d_N_shiftUp_18 (by decide) ?_
      refine lv_irem hx hb d_N_shiftUp_20 (by decide) ?_
      refine lv_istore_n (lv' := [(3, .int (jrem x1 30)), (2, .int (x1 / 30)), (0, .ref a_t), (1, .int x1)]) hx hb d_N_shiftUp_21 rfl hl (by decide) rfl (fun ls hl => ?_)
      refine lv_aload_n hx hb d_N_shiftUp_22 rfl (lv_at hl 2 rfl) ?_
      refine va_get (C := R_N) (T := F_N) (N := 2) hx hb hts i_N hown hK hP 0 rfl rfl 1 (by decide) (hts _ zfl_N_13) (fun _ h9 => h9) rfl d_N_shiftUp_23 ?_
      refine lv_iload_n hx hb d_N_shiftUp_26 rfl (lv_at hl 1 rfl) ?_
      refine lv_iadd hx hb d_N_shiftUp_27 ?_
      refine lv_iconst (v := 1) hx hb d_N_shiftUp_28 (by decide) ?_
      refine lv_iadd hx hb d_N_shiftUp_29 ?_
      refine lv_bipush (v := 48) hx hb d_N_shiftUp_30 (by decide) ?_
      refine va_mmin hx hb (hml.trans hl.1.symm) hown (hts _ zml_N_44) (hts _ zst_JM_min) (hts _ zin_JM) (hts _ zco_JM_min) (by decide) (Nat.le_of_ble_eq_true rfl) (Nat.zero_le _) (Nat.zero_le _) d_N_shiftUp_32 ?_
      refine lv_istore (lv' := [(4, .int (if 48 < ((t_used + (x1 / 30)) + 1) then 48 else ((t_used + (x1 / 30)) + 1))), (3, .int (jrem x1 30)), (2, .int (x1 / 30)), (0, .ref a_t), (1, .int x1)]) hx hb d_N_shiftUp_35 hl (by decide) rfl (fun ls hl => ?_)
      refine lv_iload hx hb d_N_shiftUp_37 (lv_at hl 0 rfl) ?_
      refine lv_iconst (v := 1) hx hb d_N_shiftUp_39 (by decide) ?_
      refine lv_isub hx hb d_N_shiftUp_40 ?_
      refine lv_istore (lv' := [(5, .int ((if 48 < ((t_used + (x1 / 30)) + 1) then 48 else ((t_used + (x1 / 30)) + 1)) - 1)), (4, .int (if 48 < ((t_used + (x1 / 30)) + 1) then 48 else ((t_used + (x1 / 30)) + 1))), (3, .int (jrem x1 30)), (2, .int (x1 / 30)), (0, .ref a_t), (1, .int x1)]) hx hb d_N_shiftUp_41 hl (by decide) rfl (fun ls hl => ?_)
      exact b_43 t_used t_limbs (x1 / 30) (jrem x1 30) (if 48 < ((t_used + (x1 / 30)) + 1) then 48 else ((t_used + (x1 / 30)) + 1)) ((if 48 < ((t_used + (x1 / 30)) + 1) then 48 else ((t_used + (x1 / 30)) + 1)) - 1) H locs ls hf hP hD hS (lv_sub hl [4, 3, 2, 1, 0] rfl)
    · have hf := (zbr hf).1 c_8
      exact hret ((t_used, t_limbs)) H locs ls _ d_N_shiftUp_11 hP hD hS (Option.some.inj hf)
theorem d_N_takeFrom_0 : decode c_N_takeFrom 0 = .ok (.aload_n 0, 1) := by decide +kernel
theorem d_N_takeFrom_1 : decode c_N_takeFrom 1 = .ok (.iload_n 1, 1) := by decide +kernel
theorem d_N_takeFrom_2 : decode c_N_takeFrom 2 = .ok (.invokevirtual 33, 3) := by decide +kernel
theorem d_N_takeFrom_5 : decode c_N_takeFrom 5 = .ok (.istore_n 2, 1) := by decide +kernel
theorem d_N_takeFrom_6 : decode c_N_takeFrom 6 = .ok (.iload_n 1, 1) := by decide +kernel
theorem d_N_takeFrom_7 : decode c_N_takeFrom 7 = .ok (.ifCond .lt 20, 3) := by decide +kernel
theorem d_N_takeFrom_10 : decode c_N_takeFrom 10 = .ok (.iload_n 1, 1) := by decide +kernel
theorem d_N_takeFrom_11 : decode c_N_takeFrom 11 = .ok (.aload_n 0, 1) := by decide +kernel
theorem d_N_takeFrom_12 : decode c_N_takeFrom 12 = .ok (.getfield 13, 3) := by decide +kernel
theorem d_N_takeFrom_15 : decode c_N_takeFrom 15 = .ok (.if_icmp .ge 12, 3) := by decide +kernel
theorem d_N_takeFrom_18 : decode c_N_takeFrom 18 = .ok (.aload_n 0, 1) := by decide +kernel
theorem d_N_takeFrom_19 : decode c_N_takeFrom 19 = .ok (.iload_n 1, 1) := by decide +kernel
theorem d_N_takeFrom_20 : decode c_N_takeFrom 20 = .ok (.putfield 13, 3) := by decide +kernel
theorem d_N_takeFrom_23 : decode c_N_takeFrom 23 = .ok (.aload_n 0, 1) := by decide +kernel
theorem d_N_takeFrom_24 : decode c_N_takeFrom 24 = .ok (.invokevirtual 18, 3) := by decide +kernel
theorem d_N_takeFrom_27 : decode c_N_takeFrom 27 = .ok (.iload_n 2, 1) := by decide +kernel
theorem d_N_takeFrom_28 : decode c_N_takeFrom 28 = .ok (.ireturn, 1) := by decide +kernel
set_option maxHeartbeats 4000000 in
set_option maxRecDepth 100000 in
theorem k_N_takeFrom (κ : zC) (X : zXT) (hX : zX κ X) (l : Launch) (a_t a_t_limbs : Nat) (sz : Nat) (t_used : Int32) (t_limbs : Nat → Int32) (x1 : Int32) (out : Int32 × ((Int32))) (hf : f_N_takeFrom t_used t_limbs x1 = some out) : zMet κ X l y_N_takeFrom c_N_takeFrom 3 (some .int) 1 21 [.ref a_t, .int x1] sz [(a_t, .inr (2, [.ref a_t_limbs, .int t_used])), (a_t_limbs, .inl (κ.2.1, 48, .inl t_limbs))] (zQi κ (fun (r : Int32) (u : (Int32)) => (r, u) = out) (fun u => [(a_t, .inr (2, [.ref a_t_limbs, .int u])), (a_t_limbs, .inl (κ.2.1, 48, .inl t_limbs))])) := by
  refine zMet.ofI (by decide +kernel) (Nat.le_of_ble_eq_true rfl) ?_
  intro p e s m args below meth c ls A Q hF hK hP hD hA hXs hS hl hret
  obtain ⟨hx, hb, hml, hown, hts⟩ := id hF
  obtain ⟨H, hH⟩ : ∃ H, H = s.heap := ⟨_, rfl⟩
  obtain ⟨locs, hlo⟩ : ∃ z : List Loc, z = [] := ⟨_, rfl⟩
  replace hP : zP κ [(a_t, .inr (2, [.ref a_t_limbs, .int t_used])), (a_t_limbs, .inl (κ.2.1, 48, .inl t_limbs))] H := by rw [hH]; exact hP
  replace hS : va_S A s.heap H locs := by rw [hH, hlo]; exact hS
  suffices hgo : W p l e (zR 1 21) s m args below meth c H locs 0 0 Q (F0 m 0 ls []) by rw [hH, hlo] at hgo; exact hgo
  clear hH hlo
  replace hl : lv_has ls 3 [(0, .ref a_t), (1, .int x1)] := hl
  unfold f_N_takeFrom at hf
  refine lv_aload_n hx hb d_N_takeFrom_0 rfl (lv_at hl 0 rfl) ?_
  refine lv_iload_n hx hb d_N_takeFrom_1 rfl (lv_at hl 1 rfl) ?_
  obtain ⟨o_2, ho_2, hf⟩ := zbd hf
  refine zVi (isC := [0, 1]) (isR := []) (isN := [0, 1]) (wc := [(a_t, .inr (2, [.ref a_t_limbs, .int t_used])), (a_t_limbs, .inl (κ.2.1, 48, .inl t_limbs))]) (wr := []) (wn := fun u => [(a_t, .inr (2, [.ref a_t_limbs, .int t_used])), (a_t_limbs, .inl (κ.2.1, 48, .inl t_limbs))]) (rest := []) (As := [.int x1]) hF zn_N_33 (k_N_limbAt κ X hX l a_t a_t_limbs H.size t_used t_limbs x1 o_2 ho_2) hX hXs hK hA hP hD hS ⟨by decide, by decide⟩ ⟨rfl, rfl, rfl, rfl, rfl, by decide⟩ ⟨rfl, fun _ => rfl, fun _ => rfl⟩ (ci := 2) rfl rfl rfl rfl hl.1 rfl (Nat.le_of_ble_eq_true rfl) ⟨Nat.zero_le _, Nat.zero_le _⟩ d_N_takeFrom_2 (fun r_2 u H locs hw hP hD hS => ?_)
  subst hw
  refine lv_istore_n (lv' := [(2, .int r_2), (0, .ref a_t), (1, .int x1)]) hx hb d_N_takeFrom_5 rfl hl (by decide) rfl (fun ls hl => ?_)
  refine lv_iload_n hx hb d_N_takeFrom_6 rfl (lv_at hl 2 rfl) ?_
  refine lv_if_lt (tgt := 27) hx hb d_N_takeFrom_7 (by decide) (fun c_7 => ?_) (fun c_7 => ?_)
  · have hf := (zbr hf).1 c_7
    refine lv_iload_n hx hb d_N_takeFrom_27 rfl (lv_at hl 0 rfl) ?_
    exact hret (r_2) (t_used) H locs ls _ d_N_takeFrom_28 hP hD hS (Option.some.inj hf)
  · have hf := (zbr hf).2 c_7
    refine lv_iload_n hx hb d_N_takeFrom_10 rfl (lv_at hl 2 rfl) ?_
    refine lv_aload_n hx hb d_N_takeFrom_11 rfl (lv_at hl 1 rfl) ?_
    refine va_get (C := R_N) (T := F_N) (N := 2) hx hb hts i_N hown hK hP 0 rfl rfl 1 (by decide) (hts _ zfl_N_13) (fun _ h9 => h9) rfl d_N_takeFrom_12 ?_
    refine lv_icmp_ge (tgt := 27) hx hb d_N_takeFrom_15 (by decide) (fun c_15 => ?_) (fun c_15 => ?_)
    · have hf := (zbr hf).1 c_15
      refine lv_iload_n hx hb d_N_takeFrom_27 rfl (lv_at hl 0 rfl) ?_
      exact hret (r_2) (t_used) H locs ls _ d_N_takeFrom_28 hP hD hS (Option.some.inj hf)
    · have hf := (zbr hf).2 c_15
      refine lv_aload_n hx hb d_N_takeFrom_18 rfl (lv_at hl 1 rfl) ?_
      refine lv_iload_n hx hb d_N_takeFrom_19 rfl (lv_at hl 2 rfl) ?_
      refine va_put (C := R_N) (T := F_N) (N := 2) hx hb hts i_N ty_N ty_N_ok n_N hown hK hP hD hS 0 rfl rfl 1 (by decide) (hts _ zfl_N_13) (fun _ h9 => h9) rfl (ty_N_ok 1 (by decide)) rfl rfl (Nat.le_of_ble_eq_true rfl) d_N_takeFrom_20 (fun H locs hP hD hS => ?_)
      have hP : zP κ [(a_t, .inr (2, [.ref a_t_limbs, .int x1])), (a_t_limbs, .inl (κ.2.1, 48, .inl t_limbs))] H := hP
      have hD : va_D A [(a_t, .inr (2, [.ref a_t_limbs, .int x1])), (a_t_limbs, .inl (κ.2.1, 48, .inl t_limbs))] := hD
      refine lv_aload_n hx hb d_N_takeFrom_23 rfl (lv_at hl 1 rfl) ?_
      obtain ⟨o_24, ho_24, hf⟩ := zbd hf
      refine zVv (isC := [0, 1]) (isR := []) (isN := [0, 1]) (wc := [(a_t, .inr (2, [.ref a_t_limbs, .int x1])), (a_t_limbs, .inl (κ.2.1, 48, .inl t_limbs))]) (wr := []) (wn := fun u => [(a_t, .inr (2, [.ref a_t_limbs, .int u])), (a_t_limbs, .inl (κ.2.1, 48, .inl t_limbs))]) (rest := []) (As := []) hF zn_N_18 (k_N_dropLeadingZeros κ X hX l a_t a_t_limbs H.size x1 t_limbs o_24 ho_24) hX hXs hK hA hP hD hS ⟨by decide, by decide⟩ ⟨rfl, rfl, rfl, rfl, rfl, by decide⟩ ⟨rfl, fun _ => rfl, fun _ => rfl⟩ (ci := 2) rfl rfl rfl rfl hl.1 rfl (Nat.le_of_ble_eq_true rfl) ⟨Nat.zero_le _, Nat.zero_le _⟩ d_N_takeFrom_24 (fun u H locs hw hP hD hS => ?_)
      obtain ⟨u24_t_used, rfl⟩ : ∃ z, z = u := ⟨_, rfl⟩
      have hP : zP κ [(a_t, .inr (2, [.ref a_t_limbs, .int u24_t_used])), (a_t_limbs, .inl (κ.2.1, 48, .inl t_limbs))] H := hP
      have hD : va_D A [(a_t, .inr (2, [.ref a_t_limbs, .int u24_t_used])), (a_t_limbs, .inl (κ.2.1, 48, .inl t_limbs))] := hD
      subst hw
      refine lv_iload_n hx hb d_N_takeFrom_27 rfl (lv_at hl 0 rfl) ?_
      exact hret (r_2) (u24_t_used) H locs ls _ d_N_takeFrom_28 hP hD hS (Option.some.inj hf)
theorem d_N_divideBySmall_0 : decode c_N_divideBySmall 0 = .ok (.iload_n 1, 1) := by decide +kernel
theorem d_N_divideBySmall_1 : decode c_N_divideBySmall 1 = .ok (.ifCond .gt 5, 3) := by decide +kernel
theorem d_N_divideBySmall_4 : decode c_N_divideBySmall 4 = .ok (.iconst 0, 1) := by decide +kernel
theorem d_N_divideBySmall_5 : decode c_N_divideBySmall 5 = .ok (.ireturn, 1) := by decide +kernel
theorem d_N_divideBySmall_6 : decode c_N_divideBySmall 6 = .ok (.lconst 0, 1) := by decide +kernel
theorem d_N_divideBySmall_7 : decode c_N_divideBySmall 7 = .ok (.lstore_n 2, 1) := by decide +kernel
theorem d_N_divideBySmall_8 : decode c_N_divideBySmall 8 = .ok (.aload_n 0, 1) := by decide +kernel
theorem d_N_divideBySmall_9 : decode c_N_divideBySmall 9 = .ok (.getfield 13, 3) := by decide +kernel
theorem d_N_divideBySmall_12 : decode c_N_divideBySmall 12 = .ok (.iconst 1, 1) := by decide +kernel
theorem d_N_divideBySmall_13 : decode c_N_divideBySmall 13 = .ok (.isub, 1) := by decide +kernel
theorem d_N_divideBySmall_14 : decode c_N_divideBySmall 14 = .ok (.istore 4, 2) := by decide +kernel
theorem d_N_divideBySmall_16 : decode c_N_divideBySmall 16 = .ok (.iload 4, 2) := by decide +kernel
theorem d_N_divideBySmall_18 : decode c_N_divideBySmall 18 = .ok (.ifCond .lt 40, 3) := by decide +kernel
theorem d_N_divideBySmall_21 : decode c_N_divideBySmall 21 = .ok (.lload_n 2, 1) := by decide +kernel
theorem d_N_divideBySmall_22 : decode c_N_divideBySmall 22 = .ok (.bipush 30, 2) := by decide +kernel
theorem d_N_divideBySmall_24 : decode c_N_divideBySmall 24 = .ok (.lshl, 1) := by decide +kernel
theorem d_N_divideBySmall_25 : decode c_N_divideBySmall 25 = .ok (.aload_n 0, 1) := by decide +kernel
theorem d_N_divideBySmall_26 : decode c_N_divideBySmall 26 = .ok (.getfield 9, 3) := by decide +kernel
theorem d_N_divideBySmall_29 : decode c_N_divideBySmall 29 = .ok (.iload 4, 2) := by decide +kernel
theorem d_N_divideBySmall_31 : decode c_N_divideBySmall 31 = .ok (.iaload, 1) := by decide +kernel
theorem d_N_divideBySmall_32 : decode c_N_divideBySmall 32 = .ok (.i2l, 1) := by decide +kernel
theorem d_N_divideBySmall_33 : decode c_N_divideBySmall 33 = .ok (.lor, 1) := by decide +kernel
theorem d_N_divideBySmall_34 : decode c_N_divideBySmall 34 = .ok (.lstore_n 2, 1) := by decide +kernel
theorem d_N_divideBySmall_35 : decode c_N_divideBySmall 35 = .ok (.aload_n 0, 1) := by decide +kernel
theorem d_N_divideBySmall_36 : decode c_N_divideBySmall 36 = .ok (.getfield 9, 3) := by decide +kernel
theorem d_N_divideBySmall_39 : decode c_N_divideBySmall 39 = .ok (.iload 4, 2) := by decide +kernel
theorem d_N_divideBySmall_41 : decode c_N_divideBySmall 41 = .ok (.lload_n 2, 1) := by decide +kernel
theorem d_N_divideBySmall_42 : decode c_N_divideBySmall 42 = .ok (.iload_n 1, 1) := by decide +kernel
theorem d_N_divideBySmall_43 : decode c_N_divideBySmall 43 = .ok (.i2l, 1) := by decide +kernel
theorem d_N_divideBySmall_44 : decode c_N_divideBySmall 44 = .ok (.ldiv, 1) := by decide +kernel
theorem d_N_divideBySmall_45 : decode c_N_divideBySmall 45 = .ok (.l2i, 1) := by decide +kernel
theorem d_N_divideBySmall_46 : decode c_N_divideBySmall 46 = .ok (.iastore, 1) := by decide +kernel
theorem d_N_divideBySmall_47 : decode c_N_divideBySmall 47 = .ok (.lload_n 2, 1) := by decide +kernel
theorem d_N_divideBySmall_48 : decode c_N_divideBySmall 48 = .ok (.iload_n 1, 1) := by decide +kernel
theorem d_N_divideBySmall_49 : decode c_N_divideBySmall 49 = .ok (.i2l, 1) := by decide +kernel
theorem d_N_divideBySmall_50 : decode c_N_divideBySmall 50 = .ok (.lrem, 1) := by decide +kernel
theorem d_N_divideBySmall_51 : decode c_N_divideBySmall 51 = .ok (.lstore_n 2, 1) := by decide +kernel
theorem d_N_divideBySmall_52 : decode c_N_divideBySmall 52 = .ok (.iinc 4 (-1), 3) := by decide +kernel
theorem d_N_divideBySmall_55 : decode c_N_divideBySmall 55 = .ok (.goto (-39), 3) := by decide +kernel
theorem d_N_divideBySmall_58 : decode c_N_divideBySmall 58 = .ok (.aload_n 0, 1) := by decide +kernel
theorem d_N_divideBySmall_59 : decode c_N_divideBySmall 59 = .ok (.invokevirtual 18, 3) := by decide +kernel
theorem d_N_divideBySmall_62 : decode c_N_divideBySmall 62 = .ok (.lload_n 2, 1) := by decide +kernel
theorem d_N_divideBySmall_63 : decode c_N_divideBySmall 63 = .ok (.l2i, 1) := by decide +kernel
theorem d_N_divideBySmall_64 : decode c_N_divideBySmall 64 = .ok (.ireturn, 1) := by decide +kernel
set_option maxHeartbeats 4000000 in
set_option maxRecDepth 100000 in
theorem k_N_divideBySmall (κ : zC) (X : zXT) (hX : zX κ X) (l : Launch) (a_t a_t_limbs : Nat) (sz : Nat) (t_used : Int32) (t_limbs : Nat → Int32) (x1 : Int32) (out : Int32 × ((Int32) × (Nat → Int32))) (hf : f_N_divideBySmall t_used t_limbs x1 = some out) : zMet κ X l y_N_divideBySmall c_N_divideBySmall 5 (some .int) 1 20 [.ref a_t, .int x1] sz [(a_t, .inr (2, [.ref a_t_limbs, .int t_used])), (a_t_limbs, .inl (κ.2.1, 48, .inl t_limbs))] (zQi κ (fun (r : Int32) (u : (Int32) × (Nat → Int32)) => (r, u) = out) (fun u => [(a_t, .inr (2, [.ref a_t_limbs, .int u.1])), (a_t_limbs, .inl (κ.2.1, 48, .inl u.2))])) := by
  refine zMet.ofI (by decide +kernel) (Nat.le_of_ble_eq_true rfl) ?_
  intro p e s m args below meth c ls A Q hF hK hP hD hA hXs hS hl hret
  obtain ⟨hx, hb, hml, hown, hts⟩ := id hF
  obtain ⟨H, hH⟩ : ∃ H, H = s.heap := ⟨_, rfl⟩
  obtain ⟨locs, hlo⟩ : ∃ z : List Loc, z = [] := ⟨_, rfl⟩
  replace hP : zP κ [(a_t, .inr (2, [.ref a_t_limbs, .int t_used])), (a_t_limbs, .inl (κ.2.1, 48, .inl t_limbs))] H := by rw [hH]; exact hP
  replace hS : va_S A s.heap H locs := by rw [hH, hlo]; exact hS
  suffices hgo : W p l e (zR 1 20) s m args below meth c H locs 0 0 Q (F0 m 0 ls []) by rw [hH, hlo] at hgo; exact hgo
  clear hH hlo
  replace hl : lv_has ls 5 [(0, .ref a_t), (1, .int x1)] := hl
  have b_58 : ∀ (t_used : Int32) (t_limbs : Nat → Int32) (x2 : Int64) (H : Heap) (locs : List Loc) (ls : Array Slot), f_N_divideBySmall_58 t_used t_limbs x2 = some out → zP κ [(a_t, .inr (2, [.ref a_t_limbs, .int t_used])), (a_t_limbs, .inl (κ.2.1, 48, .inl t_limbs))] H → va_D A [(a_t, .inr (2, [.ref a_t_limbs, .int t_used])), (a_t_limbs, .inl (κ.2.1, 48, .inl t_limbs))] → va_S A s.heap H locs → lv_has ls 5 [(0, .ref a_t), (2, .long x2)] → W p l e (zR 1 20) s m args below meth c H locs 0 0 Q (F0 m 58 ls []) := by
    intro t_used t_limbs x2 H locs ls hf hP hD hS hl
    unfold f_N_divideBySmall_58 at hf
    refine lv_aload_n hx hb d_N_divideBySmall_58 rfl (lv_at hl 0 rfl) ?_
    obtain ⟨o_59, ho_59, hf⟩ := zbd hf
    refine zVv (isC := [0, 1]) (isR := []) (isN := [0, 1]) (wc := [(a_t, .inr (2, [.ref a_t_limbs, .int t_used])), (a_t_limbs, .inl (κ.2.1, 48, .inl t_limbs))]) (wr := []) (wn := fun u => [(a_t, .inr (2, [.ref a_t_limbs, .int u])), (a_t_limbs, .inl (κ.2.1, 48, .inl t_limbs))]) (rest := []) (As := []) hF zn_N_18 (k_N_dropLeadingZeros κ X hX l a_t a_t_limbs H.size t_used t_limbs o_59 ho_59) hX hXs hK hA hP hD hS ⟨by decide, by decide⟩ ⟨rfl, rfl, rfl, rfl, rfl, by decide⟩ ⟨rfl, fun _ => rfl, fun _ => rfl⟩ (ci := 2) rfl rfl rfl rfl hl.1 rfl (Nat.le_of_ble_eq_true rfl) ⟨Nat.zero_le _, Nat.zero_le _⟩ d_N_divideBySmall_59 (fun u H locs hw hP hD hS => ?_)
    obtain ⟨u59_t_used, rfl⟩ : ∃ z, z = u := ⟨_, rfl⟩
    have hP : zP κ [(a_t, .inr (2, [.ref a_t_limbs, .int u59_t_used])), (a_t_limbs, .inl (κ.2.1, 48, .inl t_limbs))] H := hP
    have hD : va_D A [(a_t, .inr (2, [.ref a_t_limbs, .int u59_t_used])), (a_t_limbs, .inl (κ.2.1, 48, .inl t_limbs))] := hD
    subst hw
    refine lv_lload_n hx hb d_N_divideBySmall_62 rfl (lv_at hl 1 rfl) ?_
    refine lv_l2i hx hb d_N_divideBySmall_63 rfl ?_
    exact hret ((x2).toInt32) ((u59_t_used, t_limbs)) H locs ls _ d_N_divideBySmall_64 hP hD hS (Option.some.inj hf)
  have b_16 : ∀ (t_used : Int32) (t_limbs : Nat → Int32) (x1 : Int32) (x2 : Int64) (x4 : Int32) (H : Heap) (locs : List Loc) (ls : Array Slot), f_N_divideBySmall_16 t_used t_limbs x1 x2 x4 = some out → zP κ [(a_t, .inr (2, [.ref a_t_limbs, .int t_used])), (a_t_limbs, .inl (κ.2.1, 48, .inl t_limbs))] H → va_D A [(a_t, .inr (2, [.ref a_t_limbs, .int t_used])), (a_t_limbs, .inl (κ.2.1, 48, .inl t_limbs))] → va_S A s.heap H locs → lv_has ls 5 [(0, .ref a_t), (1, .int x1), (2, .long x2), (4, .int x4)] → W p l e (zR 1 20) s m args below meth c H locs 0 0 Q (F0 m 16 ls []) := by
    intro t_used t_limbs x1 x2 x4 H locs ls hf hP hD hS hl
    refine zrun_ind (P := fun z : (Int32) × (Nat → Int32) × (Int64) × (Int32) => ∀ (H : Heap) (locs : List Loc) (ls : Array Slot), zP κ [(a_t, .inr (2, [.ref a_t_limbs, .int z.1])), (a_t_limbs, .inl (κ.2.1, 48, .inl z.2.1))] H → va_D A [(a_t, .inr (2, [.ref a_t_limbs, .int z.1])), (a_t_limbs, .inl (κ.2.1, 48, .inl z.2.1))] → va_S A s.heap H locs → lv_has ls 5 [(0, .ref a_t), (1, .int x1), (2, .long z.2.2.1), (4, .int z.2.2.2)] → W p l e (zR 1 20) s m args below meth c H locs 0 0 Q (F0 m 16 ls [])) ?_ hf H locs ls hP hD hS hl
    clear hf hP hD hS hl H locs ls t_used t_limbs x2 x4
    intro z ih hne hexit_16 H locs ls hP hD hS hl
    obtain ⟨q_16, hf⟩ := zne hne
    have hback_16 := fun y (e : q_16 = .inl y) => ih y (e ▸ hf)
    replace hexit_16 := fun y (e : q_16 = .inr y) => hexit_16 y (e ▸ hf)
    clear ih hne
    obtain ⟨t_used, t_limbs, x2, x4⟩ := z
    replace hf : f_N_divideBySmall_16_body x1 t_used t_limbs x2 x4 = some q_16 := hf
    replace hP : zP κ [(a_t, .inr (2, [.ref a_t_limbs, .int t_used])), (a_t_limbs, .inl (κ.2.1, 48, .inl t_limbs))] H := hP
    replace hD : va_D A [(a_t, .inr (2, [.ref a_t_limbs, .int t_used])), (a_t_limbs, .inl (κ.2.1, 48, .inl t_limbs))] := hD
    replace hl : lv_has ls 5 [(0, .ref a_t), (1, .int x1), (2, .long x2), (4, .int x4)] := hl
    unfold f_N_divideBySmall_16_body at hf
    refine lv_iload hx hb d_N_divideBySmall_16 (lv_at hl 3 rfl) ?_
    refine lv_if_lt (tgt := 58) hx hb d_N_divideBySmall_18 (by decide) (fun c_18 => ?_) (fun c_18 => ?_)
    · have hf := (zbr hf).1 c_18
      have hf := zex hf hexit_16
      exact b_58 t_used t_limbs x2 H locs ls hf hP hD hS (lv_sub hl [0, 2] rfl)
    · have hf := (zbr hf).2 c_18
      refine lv_lload_n hx hb d_N_divideBySmall_21 rfl (lv_at hl 2 rfl) ?_
      refine lv_bipush (v := 30) hx hb d_N_divideBySmall_22 (by decide) ?_
      refine lv_lshl (v := (jlshl x2 30)) hx hb d_N_divideBySmall_24 rfl ?_
      refine lv_aload_n hx hb d_N_divideBySmall_25 rfl (lv_at hl 0 rfl) ?_
      refine va_get (C := R_N) (T := F_N) (N := 2) hx hb hts i_N hown hK hP 0 rfl rfl 0 (by decide) (hts _ zfl_N_9) (fun _ h9 => h9) rfl d_N_divideBySmall_26 ?_
      refine lv_iload hx hb d_N_divideBySmall_29 (lv_at hl 3 rfl) ?_
      obtain ⟨g_31, hf⟩ := zgd hf
      refine va_iald hx hb hK hP 1 0 rfl rfl (zin_vp g_31) d_N_divideBySmall_31 ?_
      refine lv_i2l hx hb d_N_divideBySmall_32 rfl ?_
      refine lv_lor hx hb d_N_divideBySmall_33 ?_
      refine lv_lstore_n (lv' := [(2, .long ((jlshl x2 30) ||| ((t_limbs x4.toNatClampNeg)).toInt64)), (0, .ref a_t), (1, .int x1), (4, .int x4)]) hx hb d_N_divideBySmall_34 rfl hl (by decide) rfl (fun ls hl => ?_)
      refine lv_aload_n hx hb d_N_divideBySmall_35 rfl (lv_at hl 1 rfl) ?_
      refine va_get (C := R_N) (T := F_N) (N := 2) hx hb hts i_N hown hK hP 0 rfl rfl 0 (by decide) (hts _ zfl_N_9) (fun _ h9 => h9) rfl d_N_divideBySmall_36 ?_
      refine lv_iload hx hb d_N_divideBySmall_39 (lv_at hl 3 rfl) ?_
      refine lv_lload_n hx hb d_N_divideBySmall_41 rfl (lv_at hl 0 rfl) ?_
      refine lv_iload_n hx hb d_N_divideBySmall_42 rfl (lv_at hl 2 rfl) ?_
      refine lv_i2l hx hb d_N_divideBySmall_43 rfl ?_
      obtain ⟨g_44, hf⟩ := zgd hf
      refine lv_ldiv hx hb d_N_divideBySmall_44 g_44 ?_
      refine lv_l2i hx hb d_N_divideBySmall_45 rfl ?_
      obtain ⟨g_46, hf⟩ := zgd hf
      refine va_iast hx hb hK hP hD hS 1 0 rfl rfl (zin_vp g_46) d_N_divideBySmall_46 (fun H locs hP hD hS => ?_)
      have hP : zP κ [(a_t, .inr (2, [.ref a_t_limbs, .int t_used])), (a_t_limbs, .inl (κ.2.1, 48, .inl (upd t_limbs x4.toNatClampNeg ((((jlshl x2 30) ||| ((t_limbs x4.toNatClampNeg)).toInt64) / (x1).toInt64)).toInt32)))] H := hP
      have hD : va_D A [(a_t, .inr (2, [.ref a_t_limbs, .int t_used])), (a_t_limbs, .inl (κ.2.1, 48, .inl (upd t_limbs x4.toNatClampNeg ((((jlshl x2 30) ||| ((t_limbs x4.toNatClampNeg)).toInt64) / (x1).toInt64)).toInt32)))] := hD
      refine lv_lload_n hx hb d_N_divideBySmall_47 rfl (lv_at hl 0 rfl) ?_
      refine lv_iload_n hx hb d_N_divideBySmall_48 rfl (lv_at hl 2 rfl) ?_
      refine lv_i2l hx hb d_N_divideBySmall_49 rfl ?_
      obtain ⟨g_50, hf⟩ := zgd hf
      refine lv_lrem hx hb d_N_divideBySmall_50 g_50 ?_
      refine lv_lstore_n (lv' := [(2, .long (jlrem ((jlshl x2 30) ||| ((t_limbs x4.toNatClampNeg)).toInt64) (x1).toInt64)), (0, .ref a_t), (1, .int x1), (4, .int x4)]) hx hb d_N_divideBySmall_51 rfl hl (by decide) rfl (fun ls hl => ?_)
      refine lv_iinc (v := (x4 + (-1))) (lv' := [(4, .int (x4 + (-1))), (2, .long (jlrem ((jlshl x2 30) ||| ((t_limbs x4.toNatClampNeg)).toInt64) (x1).toInt64)), (0, .ref a_t), (1, .int x1)]) hx hb d_N_divideBySmall_52 hl (k := 3) rfl rfl (by decide) rfl (fun ls hl => ?_)
      refine lv_goto (tgt := 16) hx hb d_N_divideBySmall_55 (by decide) ?_
      exact hback_16 _ (Option.some.inj hf).symm H locs ls hP hD hS (lv_sub hl [2, 3, 1, 0] rfl)
  unfold f_N_divideBySmall at hf
  refine lv_iload_n hx hb d_N_divideBySmall_0 rfl (lv_at hl 1 rfl) ?_
  refine lv_if_gt (tgt := 6) hx hb d_N_divideBySmall_1 (by decide) (fun c_1 => ?_) (fun c_1 => ?_)
  · have hf := (zbr hf).1 c_1
    refine lv_lconst (v := 0) hx hb d_N_divideBySmall_6 (by decide) ?_
    refine lv_lstore_n (lv' := [(2, .long 0), (0, .ref a_t), (1, .int x1)]) hx hb d_N_divideBySmall_7 rfl hl (by decide) rfl (fun ls hl => ?_)
    refine lv_aload_n hx hb d_N_divideBySmall_8 rfl (lv_at hl 1 rfl) ?_
    refine va_get (C := R_N) (T := F_N) (N := 2) hx hb hts i_N hown hK hP 0 rfl rfl 1 (by decide) (hts _ zfl_N_13) (fun _ h9 => h9) rfl d_N_divideBySmall_9 ?_
    refine lv_iconst (v := 1) hx hb d_N_divideBySmall_12 (by decide) ?_
    refine lv_isub hx hb d_N_divideBySmall_13 ?_
    refine lv_istore (lv' := [(4, .int (t_used - 1)), (2, .long 0), (0, .ref a_t), (1, .int x1)]) hx hb d_N_divideBySmall_14 hl (by decide) rfl (fun ls hl => ?_)
    exact b_16 t_used t_limbs x1 0 (t_used - 1) H locs ls hf hP hD hS (lv_sub hl [2, 3, 1, 0] rfl)
  · have hf := (zbr hf).2 c_1
    refine lv_iconst (v := 0) hx hb d_N_divideBySmall_4 (by decide) ?_
    exact hret ((0 : Int32)) ((t_used, t_limbs)) H locs ls _ d_N_divideBySmall_5 hP hD hS (Option.some.inj hf)
theorem d_N_subtractTimes_0 : decode c_N_subtractTimes 0 = .ok (.lconst 0, 1) := by decide +kernel
theorem d_N_subtractTimes_1 : decode c_N_subtractTimes 1 = .ok (.lstore_n 3, 1) := by decide +kernel
theorem d_N_subtractTimes_2 : decode c_N_subtractTimes 2 = .ok (.iconst 0, 1) := by decide +kernel
theorem d_N_subtractTimes_3 : decode c_N_subtractTimes 3 = .ok (.istore 5, 2) := by decide +kernel
theorem d_N_subtractTimes_5 : decode c_N_subtractTimes 5 = .ok (.iload 5, 2) := by decide +kernel
theorem d_N_subtractTimes_7 : decode c_N_subtractTimes 7 = .ok (.aload_n 0, 1) := by decide +kernel
theorem d_N_subtractTimes_8 : decode c_N_subtractTimes 8 = .ok (.getfield 13, 3) := by decide +kernel
theorem d_N_subtractTimes_11 : decode c_N_subtractTimes 11 = .ok (.if_icmp .ge 48, 3) := by decide +kernel
theorem d_N_subtractTimes_14 : decode c_N_subtractTimes 14 = .ok (.lload_n 3, 1) := by decide +kernel
theorem d_N_subtractTimes_15 : decode c_N_subtractTimes 15 = .ok (.aload_n 0, 1) := by decide +kernel
theorem d_N_subtractTimes_16 : decode c_N_subtractTimes 16 = .ok (.getfield 9, 3) := by decide +kernel
theorem d_N_subtractTimes_19 : decode c_N_subtractTimes 19 = .ok (.iload 5, 2) := by decide +kernel
theorem d_N_subtractTimes_21 : decode c_N_subtractTimes 21 = .ok (.iaload, 1) := by decide +kernel
theorem d_N_subtractTimes_22 : decode c_N_subtractTimes 22 = .ok (.i2l, 1) := by decide +kernel
theorem d_N_subtractTimes_23 : decode c_N_subtractTimes 23 = .ok (.aload_n 1, 1) := by decide +kernel
theorem d_N_subtractTimes_24 : decode c_N_subtractTimes 24 = .ok (.iload 5, 2) := by decide +kernel
theorem d_N_subtractTimes_26 : decode c_N_subtractTimes 26 = .ok (.invokevirtual 33, 3) := by decide +kernel
theorem d_N_subtractTimes_29 : decode c_N_subtractTimes 29 = .ok (.i2l, 1) := by decide +kernel
theorem d_N_subtractTimes_30 : decode c_N_subtractTimes 30 = .ok (.iload_n 2, 1) := by decide +kernel
theorem d_N_subtractTimes_31 : decode c_N_subtractTimes 31 = .ok (.i2l, 1) := by decide +kernel
theorem d_N_subtractTimes_32 : decode c_N_subtractTimes 32 = .ok (.lmul, 1) := by decide +kernel
theorem d_N_subtractTimes_33 : decode c_N_subtractTimes 33 = .ok (.lsub, 1) := by decide +kernel
theorem d_N_subtractTimes_34 : decode c_N_subtractTimes 34 = .ok (.ladd, 1) := by decide +kernel
theorem d_N_subtractTimes_35 : decode c_N_subtractTimes 35 = .ok (.lstore_n 3, 1) := by decide +kernel
theorem d_N_subtractTimes_36 : decode c_N_subtractTimes 36 = .ok (.aload_n 0, 1) := by decide +kernel
theorem d_N_subtractTimes_37 : decode c_N_subtractTimes 37 = .ok (.getfield 9, 3) := by decide +kernel
theorem d_N_subtractTimes_40 : decode c_N_subtractTimes 40 = .ok (.iload 5, 2) := by decide +kernel
theorem d_N_subtractTimes_42 : decode c_N_subtractTimes 42 = .ok (.lload_n 3, 1) := by decide +kernel
theorem d_N_subtractTimes_43 : decode c_N_subtractTimes 43 = .ok (.l2i, 1) := by decide +kernel
theorem d_N_subtractTimes_44 : decode c_N_subtractTimes 44 = .ok (.ldc 17, 2) := by decide +kernel
theorem d_N_subtractTimes_46 : decode c_N_subtractTimes 46 = .ok (.iand, 1) := by decide +kernel
theorem d_N_subtractTimes_47 : decode c_N_subtractTimes 47 = .ok (.iastore, 1) := by decide +kernel
theorem d_N_subtractTimes_48 : decode c_N_subtractTimes 48 = .ok (.lload_n 3, 1) := by decide +kernel
theorem d_N_subtractTimes_49 : decode c_N_subtractTimes 49 = .ok (.bipush 30, 2) := by decide +kernel
theorem d_N_subtractTimes_51 : decode c_N_subtractTimes 51 = .ok (.lshr, 1) := by decide +kernel
theorem d_N_subtractTimes_52 : decode c_N_subtractTimes 52 = .ok (.lstore_n 3, 1) := by decide +kernel
theorem d_N_subtractTimes_53 : decode c_N_subtractTimes 53 = .ok (.iinc 5 1, 3) := by decide +kernel
theorem d_N_subtractTimes_56 : decode c_N_subtractTimes 56 = .ok (.goto (-51), 3) := by decide +kernel
theorem d_N_subtractTimes_59 : decode c_N_subtractTimes 59 = .ok (.aload_n 0, 1) := by decide +kernel
theorem d_N_subtractTimes_60 : decode c_N_subtractTimes 60 = .ok (.invokevirtual 18, 3) := by decide +kernel
theorem d_N_subtractTimes_63 : decode c_N_subtractTimes 63 = .ok (.return_, 1) := by decide +kernel
set_option maxHeartbeats 4000000 in
set_option maxRecDepth 100000 in
theorem k_N_subtractTimes (κ : zC) (X : zXT) (hX : zX κ X) (l : Launch) (a_t a_o a_t_limbs a_o_limbs : Nat) (sz : Nat) (t_used : Int32) (t_limbs : Nat → Int32) (o_used : Int32) (o_limbs : Nat → Int32) (x2 : Int32) (out : (Int32) × (Nat → Int32)) (hf : f_N_subtractTimes t_used t_limbs o_used o_limbs x2 = some out) : zMet κ X l y_N_subtractTimes c_N_subtractTimes 6 none 1 21 [.ref a_t, .ref a_o, .int x2] sz [(a_t, .inr (2, [.ref a_t_limbs, .int t_used])), (a_t_limbs, .inl (κ.2.1, 48, .inl t_limbs)), (a_o, .inr (2, [.ref a_o_limbs, .int o_used])), (a_o_limbs, .inl (κ.2.1, 48, .inl o_limbs))] (zQv κ (fun (u : (Int32) × (Nat → Int32)) => u = out) (fun u => [(a_t, .inr (2, [.ref a_t_limbs, .int u.1])), (a_t_limbs, .inl (κ.2.1, 48, .inl u.2)), (a_o, .inr (2, [.ref a_o_limbs, .int o_used])), (a_o_limbs, .inl (κ.2.1, 48, .inl o_limbs))])) := by
  refine zMet.ofV (by decide +kernel) (Nat.le_of_ble_eq_true rfl) ?_
  intro p e s m args below meth c ls A Q hF hK hP hD hA hXs hS hl hret
  obtain ⟨hx, hb, hml, hown, hts⟩ := id hF
  obtain ⟨H, hH⟩ : ∃ H, H = s.heap := ⟨_, rfl⟩
  obtain ⟨locs, hlo⟩ : ∃ z : List Loc, z = [] := ⟨_, rfl⟩
  replace hP : zP κ [(a_t, .inr (2, [.ref a_t_limbs, .int t_used])), (a_t_limbs, .inl (κ.2.1, 48, .inl t_limbs)), (a_o, .inr (2, [.ref a_o_limbs, .int o_used])), (a_o_limbs, .inl (κ.2.1, 48, .inl o_limbs))] H := by rw [hH]; exact hP
  replace hS : va_S A s.heap H locs := by rw [hH, hlo]; exact hS
  suffices hgo : W p l e (zR 1 21) s m args below meth c H locs 0 0 Q (F0 m 0 ls []) by rw [hH, hlo] at hgo; exact hgo
  clear hH hlo
  replace hl : lv_has ls 6 [(0, .ref a_t), (1, .ref a_o), (2, .int x2)] := hl
  have b_59 : ∀ (t_used : Int32) (t_limbs : Nat → Int32) (H : Heap) (locs : List Loc) (ls : Array Slot), f_N_subtractTimes_59 t_used t_limbs o_used o_limbs = some out → zP κ [(a_t, .inr (2, [.ref a_t_limbs, .int t_used])), (a_t_limbs, .inl (κ.2.1, 48, .inl t_limbs)), (a_o, .inr (2, [.ref a_o_limbs, .int o_used])), (a_o_limbs, .inl (κ.2.1, 48, .inl o_limbs))] H → va_D A [(a_t, .inr (2, [.ref a_t_limbs, .int t_used])), (a_t_limbs, .inl (κ.2.1, 48, .inl t_limbs)), (a_o, .inr (2, [.ref a_o_limbs, .int o_used])), (a_o_limbs, .inl (κ.2.1, 48, .inl o_limbs))] → va_S A s.heap H locs → lv_has ls 6 [(0, .ref a_t)] → W p l e (zR 1 21) s m args below meth c H locs 0 0 Q (F0 m 59 ls []) := by
    intro t_used t_limbs H locs ls hf hP hD hS hl
    unfold f_N_subtractTimes_59 at hf
    refine lv_aload_n hx hb d_N_subtractTimes_59 rfl (lv_at hl 0 rfl) ?_
    obtain ⟨o_60, ho_60, hf⟩ := zbd hf
    refine zVv (isC := [0, 1]) (isR := [2, 3]) (isN := [2, 3, 0, 1]) (wc := [(a_t, .inr (2, [.ref a_t_limbs, .int t_used])), (a_t_limbs, .inl (κ.2.1, 48, .inl t_limbs))]) (wr := [(a_o, .inr (2, [.ref a_o_limbs, .int o_used])), (a_o_limbs, .inl (κ.2.1, 48, .inl o_limbs))]) (wn := fun u => [(a_t, .inr (2, [.ref a_t_limbs, .int u])), (a_t_limbs, .inl (κ.2.1, 48, .inl t_limbs)), (a_o, .inr (2, [.ref a_o_limbs, .int o_used])), (a_o_limbs, .inl (κ.2.1, 48, .inl o_limbs))]) (rest := []) (As := []) hF zn_N_18 (k_N_dropLeadingZeros κ X hX l a_t a_t_limbs H.size t_used t_limbs o_60 ho_60) hX hXs hK hA hP hD hS ⟨by decide, by decide⟩ ⟨rfl, rfl, rfl, rfl, rfl, by decide⟩ ⟨rfl, fun _ => rfl, fun _ => rfl⟩ (ci := 2) rfl rfl rfl rfl hl.1 rfl (Nat.le_of_ble_eq_true rfl) ⟨Nat.zero_le _, Nat.zero_le _⟩ d_N_subtractTimes_60 (fun u H locs hw hP hD hS => ?_)
    obtain ⟨u60_t_used, rfl⟩ : ∃ z, z = u := ⟨_, rfl⟩
    have hP : zP κ [(a_t, .inr (2, [.ref a_t_limbs, .int u60_t_used])), (a_t_limbs, .inl (κ.2.1, 48, .inl t_limbs)), (a_o, .inr (2, [.ref a_o_limbs, .int o_used])), (a_o_limbs, .inl (κ.2.1, 48, .inl o_limbs))] H := hP
    have hD : va_D A [(a_t, .inr (2, [.ref a_t_limbs, .int u60_t_used])), (a_t_limbs, .inl (κ.2.1, 48, .inl t_limbs)), (a_o, .inr (2, [.ref a_o_limbs, .int o_used])), (a_o_limbs, .inl (κ.2.1, 48, .inl o_limbs))] := hD
    subst hw
    exact hret ((u60_t_used, t_limbs)) H locs ls _ d_N_subtractTimes_63 hP hD hS (Option.some.inj hf)
  have b_5 : ∀ (t_used : Int32) (t_limbs : Nat → Int32) (x2 : Int32) (x3 : Int64) (x5 : Int32) (H : Heap) (locs : List Loc) (ls : Array Slot), f_N_subtractTimes_5 t_used t_limbs o_used o_limbs x2 x3 x5 = some out → zP κ [(a_t, .inr (2, [.ref a_t_limbs, .int t_used])), (a_t_limbs, .inl (κ.2.1, 48, .inl t_limbs)), (a_o, .inr (2, [.ref a_o_limbs, .int o_used])), (a_o_limbs, .inl (κ.2.1, 48, .inl o_limbs))] H → va_D A [(a_t, .inr (2, [.ref a_t_limbs, .int t_used])), (a_t_limbs, .inl (κ.2.1, 48, .inl t_limbs)), (a_o, .inr (2, [.ref a_o_limbs, .int o_used])), (a_o_limbs, .inl (κ.2.1, 48, .inl o_limbs))] → va_S A s.heap H locs → lv_has ls 6 [(0, .ref a_t), (1, .ref a_o), (2, .int x2), (3, .long x3), (5, .int x5)] → W p l e (zR 1 21) s m args below meth c H locs 0 0 Q (F0 m 5 ls []) := by
    intro t_used t_limbs x2 x3 x5 H locs ls hf hP hD hS hl
    refine zrun_ind (P := fun z : (Int32) × (Nat → Int32) × (Int64) × (Int32) => ∀ (H : Heap) (locs : List Loc) (ls : Array Slot), zP κ [(a_t, .inr (2, [.ref a_t_limbs, .int z.1])), (a_t_limbs, .inl (κ.2.1, 48, .inl z.2.1)), (a_o, .inr (2, [.ref a_o_limbs, .int o_used])), (a_o_limbs, .inl (κ.2.1, 48, .inl o_limbs))] H → va_D A [(a_t, .inr (2, [.ref a_t_limbs, .int z.1])), (a_t_limbs, .inl (κ.2.1, 48, .inl z.2.1)), (a_o, .inr (2, [.ref a_o_limbs, .int o_used])), (a_o_limbs, .inl (κ.2.1, 48, .inl o_limbs))] → va_S A s.heap H locs → lv_has ls 6 [(0, .ref a_t), (1, .ref a_o), (2, .int x2), (3, .long z.2.2.1), (5, .int z.2.2.2)] → W p l e (zR 1 21) s m args below meth c H locs 0 0 Q (F0 m 5 ls [])) ?_ hf H locs ls hP hD hS hl
    clear hf hP hD hS hl H locs ls t_used t_limbs x3 x5
    intro z ih hne hexit_5 H locs ls hP hD hS hl
    obtain ⟨q_5, hf⟩ := zne hne
    have hback_5 := fun y (e : q_5 = .inl y) => ih y (e ▸ hf)
    replace hexit_5 := fun y (e : q_5 = .inr y) => hexit_5 y (e ▸ hf)
    clear ih hne
    obtain ⟨t_used, t_limbs, x3, x5⟩ := z
    replace hf : f_N_subtractTimes_5_body o_used o_limbs x2 t_used t_limbs x3 x5 = some q_5 := hf
    replace hP : zP κ [(a_t, .inr (2, [.ref a_t_limbs, .int t_used])), (a_t_limbs, .inl (κ.2.1, 48, .inl t_limbs)), (a_o, .inr (2, [.ref a_o_limbs, .int o_used])), (a_o_limbs, .inl (κ.2.1, 48, .inl o_limbs))] H := hP
    replace hD : va_D A [(a_t, .inr (2, [.ref a_t_limbs, .int t_used])), (a_t_limbs, .inl (κ.2.1, 48, .inl t_limbs)), (a_o, .inr (2, [.ref a_o_limbs, .int o_used])), (a_o_limbs, .inl (κ.2.1, 48, .inl o_limbs))] := hD
    replace hl : lv_has ls 6 [(0, .ref a_t), (1, .ref a_o), (2, .int x2), (3, .long x3), (5, .int x5)] := hl
    unfold f_N_subtractTimes_5_body at hf
    refine lv_iload hx hb d_N_subtractTimes_5 (lv_at hl 4 rfl) ?_
    refine lv_aload_n hx hb d_N_subtractTimes_7 rfl (lv_at hl 0 rfl) ?_
    refine va_get (C := R_N) (T := F_N) (N := 2) hx hb hts i_N hown hK hP 0 rfl rfl 1 (by decide) (hts _ zfl_N_13) (fun _ h9 => h9) rfl d_N_subtractTimes_8 ?_
    refine lv_icmp_ge (tgt := 59) hx hb d_N_subtractTimes_11 (by decide) (fun c_11 => ?_) (fun c_11 => ?_)
    · have hf := (zbr hf).1 c_11
      have hf := zex hf hexit_5
      exact b_59 t_used t_limbs H locs ls hf hP hD hS (lv_sub hl [0] rfl)
    · have hf := (zbr hf).2 c_11
      refine lv_lload_n hx hb d_N_subtractTimes_14 rfl (lv_at hl 3 rfl) ?_
      refine lv_aload_n hx hb d_N_subtractTimes_15 rfl (lv_at hl 0 rfl) ?_
      refine va_get (C := R_N) (T := F_N) (N := 2) hx hb hts i_N hown hK hP 0 rfl rfl 0 (by decide) (hts _ zfl_N_9) (fun _ h9 => h9) rfl d_N_subtractTimes_16 ?_
      refine lv_iload hx hb d_N_subtractTimes_19 (lv_at hl 4 rfl) ?_
      obtain ⟨g_21, hf⟩ := zgd hf
      refine va_iald hx hb hK hP 1 0 rfl rfl (zin_vp g_21) d_N_subtractTimes_21 ?_
      refine lv_i2l hx hb d_N_subtractTimes_22 rfl ?_
      refine lv_aload_n hx hb d_N_subtractTimes_23 rfl (lv_at hl 1 rfl) ?_
      refine lv_iload hx hb d_N_subtractTimes_24 (lv_at hl 4 rfl) ?_
      obtain ⟨o_26, ho_26, hf⟩ := zbd hf
      refine zVi (isC := [2, 3]) (isR := [0, 1]) (isN := [0, 1, 2, 3]) (wc := [(a_o, .inr (2, [.ref a_o_limbs, .int o_used])), (a_o_limbs, .inl (κ.2.1, 48, .inl o_limbs))]) (wr := [(a_t, .inr (2, [.ref a_t_limbs, .int t_used])), (a_t_limbs, .inl (κ.2.1, 48, .inl t_limbs))]) (wn := fun u => [(a_t, .inr (2, [.ref a_t_limbs, .int t_used])), (a_t_limbs, .inl (κ.2.1, 48, .inl t_limbs)), (a_o, .inr (2, [.ref a_o_limbs, .int o_used])), (a_o_limbs, .inl (κ.2.1, 48, .inl o_limbs))]) (rest := [.long ((t_limbs x5.toNatClampNeg)).toInt64, .long x3]) (As := [.int x5]) hF zn_N_33 (k_N_limbAt κ X hX l a_o a_o_limbs H.size o_used o_limbs x5 o_26 ho_26) hX hXs hK hA hP hD hS ⟨by decide, by decide⟩ ⟨rfl, rfl, rfl, rfl, rfl, by decide⟩ ⟨rfl, fun _ => rfl, fun _ => rfl⟩ (ci := 2) rfl rfl rfl rfl hl.1 rfl (Nat.le_of_ble_eq_true rfl) ⟨Nat.zero_le _, Nat.zero_le _⟩ d_N_subtractTimes_26 (fun r_26 u H locs hw hP hD hS => ?_)
      subst hw
      refine lv_i2l hx hb d_N_subtractTimes_29 rfl ?_
      refine lv_iload_n hx hb d_N_subtractTimes_30 rfl (lv_at hl 2 rfl) ?_
      refine lv_i2l hx hb d_N_subtractTimes_31 rfl ?_
      refine lv_lmul hx hb d_N_subtractTimes_32 ?_
      refine lv_lsub hx hb d_N_subtractTimes_33 ?_
      refine lv_ladd hx hb d_N_subtractTimes_34 ?_
      refine lv_lstore_n (lv' := [(3, .long (x3 + (((t_limbs x5.toNatClampNeg)).toInt64 - ((r_26).toInt64 * (x2).toInt64)))), (0, .ref a_t), (1, .ref a_o), (2, .int x2), (5, .int x5)]) hx hb d_N_subtractTimes_35 rfl hl (by decide) rfl (fun ls hl => ?_)
      refine lv_aload_n hx hb d_N_subtractTimes_36 rfl (lv_at hl 1 rfl) ?_
      refine va_get (C := R_N) (T := F_N) (N := 2) hx hb hts i_N hown hK hP 0 rfl rfl 0 (by decide) (hts _ zfl_N_9) (fun _ h9 => h9) rfl d_N_subtractTimes_37 ?_
      refine lv_iload hx hb d_N_subtractTimes_40 (lv_at hl 4 rfl) ?_
      refine lv_lload_n hx hb d_N_subtractTimes_42 rfl (lv_at hl 0 rfl) ?_
      refine lv_l2i hx hb d_N_subtractTimes_43 rfl ?_
      refine lv_ldc (v := 1073741823) hx hb hown (hts _ zki_N_17) d_N_subtractTimes_44 ?_
      refine lv_iand hx hb d_N_subtractTimes_46 ?_
      obtain ⟨g_47, hf⟩ := zgd hf
      refine va_iast hx hb hK hP hD hS 1 0 rfl rfl (zin_vp g_47) d_N_subtractTimes_47 (fun H locs hP hD hS => ?_)
      have hP : zP κ [(a_t, .inr (2, [.ref a_t_limbs, .int t_used])), (a_t_limbs, .inl (κ.2.1, 48, .inl (upd t_limbs x5.toNatClampNeg (((x3 + (((t_limbs x5.toNatClampNeg)).toInt64 - ((r_26).toInt64 * (x2).toInt64)))).toInt32 &&& 1073741823)))), (a_o, .inr (2, [.ref a_o_limbs, .int o_used])), (a_o_limbs, .inl (κ.2.1, 48, .inl o_limbs))] H := hP
      have hD : va_D A [(a_t, .inr (2, [.ref a_t_limbs, .int t_used])), (a_t_limbs, .inl (κ.2.1, 48, .inl (upd t_limbs x5.toNatClampNeg (((x3 + (((t_limbs x5.toNatClampNeg)).toInt64 - ((r_26).toInt64 * (x2).toInt64)))).toInt32 &&& 1073741823)))), (a_o, .inr (2, [.ref a_o_limbs, .int o_used])), (a_o_limbs, .inl (κ.2.1, 48, .inl o_limbs))] := hD
      refine lv_lload_n hx hb d_N_subtractTimes_48 rfl (lv_at hl 0 rfl) ?_
      refine lv_bipush (v := 30) hx hb d_N_subtractTimes_49 (by decide) ?_
      refine lv_lshr (v := (jlshr (x3 + (((t_limbs x5.toNatClampNeg)).toInt64 - ((r_26).toInt64 * (x2).toInt64))) 30)) hx hb d_N_subtractTimes_51 rfl ?_
      refine lv_lstore_n (lv' := [(3, .long (jlshr (x3 + (((t_limbs x5.toNatClampNeg)).toInt64 - ((r_26).toInt64 * (x2).toInt64))) 30)), (0, .ref a_t), (1, .ref a_o), (2, .int x2), (5, .int x5)]) hx hb d_N_subtractTimes_52 rfl hl (by decide) rfl (fun ls hl => ?_)
      refine lv_iinc (v := (x5 + 1)) (lv' := [(5, .int (x5 + 1)), (3, .long (jlshr (x3 + (((t_limbs x5.toNatClampNeg)).toInt64 - ((r_26).toInt64 * (x2).toInt64))) 30)), (0, .ref a_t), (1, .ref a_o), (2, .int x2)]) hx hb d_N_subtractTimes_53 hl (k := 4) rfl rfl (by decide) rfl (fun ls hl => ?_)
      refine lv_goto (tgt := 5) hx hb d_N_subtractTimes_56 (by decide) ?_
      exact hback_5 _ (Option.some.inj hf).symm H locs ls hP hD hS (lv_sub hl [2, 3, 4, 1, 0] rfl)
  unfold f_N_subtractTimes at hf
  refine lv_lconst (v := 0) hx hb d_N_subtractTimes_0 (by decide) ?_
  refine lv_lstore_n (lv' := [(3, .long 0), (0, .ref a_t), (1, .ref a_o), (2, .int x2)]) hx hb d_N_subtractTimes_1 rfl hl (by decide) rfl (fun ls hl => ?_)
  refine lv_iconst (v := 0) hx hb d_N_subtractTimes_2 (by decide) ?_
  refine lv_istore (lv' := [(5, .int 0), (3, .long 0), (0, .ref a_t), (1, .ref a_o), (2, .int x2)]) hx hb d_N_subtractTimes_3 hl (by decide) rfl (fun ls hl => ?_)
  exact b_5 t_used t_limbs x2 0 0 H locs ls hf hP hD hS (lv_sub hl [2, 3, 4, 1, 0] rfl)
theorem d_N_divideLeavingRest_0 : decode c_N_divideLeavingRest 0 = .ok (.aload_n 1, 1) := by decide +kernel
theorem d_N_divideLeavingRest_1 : decode c_N_divideLeavingRest 1 = .ok (.getfield 13, 3) := by decide +kernel
theorem d_N_divideLeavingRest_4 : decode c_N_divideLeavingRest 4 = .ok (.istore_n 2, 1) := by decide +kernel
theorem d_N_divideLeavingRest_5 : decode c_N_divideLeavingRest 5 = .ok (.iload_n 2, 1) := by decide +kernel
theorem d_N_divideLeavingRest_6 : decode c_N_divideLeavingRest 6 = .ok (.ifCond .ne 5, 3) := by decide +kernel
theorem d_N_divideLeavingRest_9 : decode c_N_divideLeavingRest 9 = .ok (.iconst 0, 1) := by decide +kernel
theorem d_N_divideLeavingRest_10 : decode c_N_divideLeavingRest 10 = .ok (.ireturn, 1) := by decide +kernel
theorem d_N_divideLeavingRest_11 : decode c_N_divideLeavingRest 11 = .ok (.aload_n 0, 1) := by decide +kernel
theorem d_N_divideLeavingRest_12 : decode c_N_divideLeavingRest 12 = .ok (.iload_n 2, 1) := by decide +kernel
theorem d_N_divideLeavingRest_13 : decode c_N_divideLeavingRest 13 = .ok (.invokevirtual 33, 3) := by decide +kernel
theorem d_N_divideLeavingRest_16 : decode c_N_divideLeavingRest 16 = .ok (.i2l, 1) := by decide +kernel
theorem d_N_divideLeavingRest_17 : decode c_N_divideLeavingRest 17 = .ok (.bipush 30, 2) := by decide +kernel
theorem d_N_divideLeavingRest_19 : decode c_N_divideLeavingRest 19 = .ok (.lshl, 1) := by decide +kernel
theorem d_N_divideLeavingRest_20 : decode c_N_divideLeavingRest 20 = .ok (.aload_n 0, 1) := by decide +kernel
theorem d_N_divideLeavingRest_21 : decode c_N_divideLeavingRest 21 = .ok (.iload_n 2, 1) := by decide +kernel
theorem d_N_divideLeavingRest_22 : decode c_N_divideLeavingRest 22 = .ok (.iconst 1, 1) := by decide +kernel
theorem d_N_divideLeavingRest_23 : decode c_N_divideLeavingRest 23 = .ok (.isub, 1) := by decide +kernel
theorem d_N_divideLeavingRest_24 : decode c_N_divideLeavingRest 24 = .ok (.invokevirtual 33, 3) := by decide +kernel
theorem d_N_divideLeavingRest_27 : decode c_N_divideLeavingRest 27 = .ok (.i2l, 1) := by decide +kernel
theorem d_N_divideLeavingRest_28 : decode c_N_divideLeavingRest 28 = .ok (.lor, 1) := by decide +kernel
theorem d_N_divideLeavingRest_29 : decode c_N_divideLeavingRest 29 = .ok (.lstore_n 3, 1) := by decide +kernel
theorem d_N_divideLeavingRest_30 : decode c_N_divideLeavingRest 30 = .ok (.lload_n 3, 1) := by decide +kernel
theorem d_N_divideLeavingRest_31 : decode c_N_divideLeavingRest 31 = .ok (.aload_n 1, 1) := by decide +kernel
theorem d_N_divideLeavingRest_32 : decode c_N_divideLeavingRest 32 = .ok (.iload_n 2, 1) := by decide +kernel
theorem d_N_divideLeavingRest_33 : decode c_N_divideLeavingRest 33 = .ok (.iconst 1, 1) := by decide +kernel
theorem d_N_divideLeavingRest_34 : decode c_N_divideLeavingRest 34 = .ok (.isub, 1) := by decide +kernel
theorem d_N_divideLeavingRest_35 : decode c_N_divideLeavingRest 35 = .ok (.invokevirtual 33, 3) := by decide +kernel
theorem d_N_divideLeavingRest_38 : decode c_N_divideLeavingRest 38 = .ok (.i2l, 1) := by decide +kernel
theorem d_N_divideLeavingRest_39 : decode c_N_divideLeavingRest 39 = .ok (.lconst 1, 1) := by decide +kernel
theorem d_N_divideLeavingRest_40 : decode c_N_divideLeavingRest 40 = .ok (.ladd, 1) := by decide +kernel
theorem d_N_divideLeavingRest_41 : decode c_N_divideLeavingRest 41 = .ok (.ldiv, 1) := by decide +kernel
theorem d_N_divideLeavingRest_42 : decode c_N_divideLeavingRest 42 = .ok (.l2i, 1) := by decide +kernel
theorem d_N_divideLeavingRest_43 : decode c_N_divideLeavingRest 43 = .ok (.istore 5, 2) := by decide +kernel
theorem d_N_divideLeavingRest_45 : decode c_N_divideLeavingRest 45 = .ok (.aload_n 0, 1) := by decide +kernel
theorem d_N_divideLeavingRest_46 : decode c_N_divideLeavingRest 46 = .ok (.aload_n 1, 1) := by decide +kernel
theorem d_N_divideLeavingRest_47 : decode c_N_divideLeavingRest 47 = .ok (.iload 5, 2) := by decide +kernel
theorem d_N_divideLeavingRest_49 : decode c_N_divideLeavingRest 49 = .ok (.invokevirtual 51, 3) := by decide +kernel
theorem d_N_divideLeavingRest_52 : decode c_N_divideLeavingRest 52 = .ok (.aload_n 0, 1) := by decide +kernel
theorem d_N_divideLeavingRest_53 : decode c_N_divideLeavingRest 53 = .ok (.aload_n 1, 1) := by decide +kernel
theorem d_N_divideLeavingRest_54 : decode c_N_divideLeavingRest 54 = .ok (.invokevirtual 55, 3) := by decide +kernel
theorem d_N_divideLeavingRest_57 : decode c_N_divideLeavingRest 57 = .ok (.ifCond .lt 12, 3) := by decide +kernel
theorem d_N_divideLeavingRest_60 : decode c_N_divideLeavingRest 60 = .ok (.aload_n 0, 1) := by decide +kernel
theorem d_N_divideLeavingRest_61 : decode c_N_divideLeavingRest 61 = .ok (.aload_n 1, 1) := by decide +kernel
theorem d_N_divideLeavingRest_62 : decode c_N_divideLeavingRest 62 = .ok (.iconst 1, 1) := by decide +kernel
theorem d_N_divideLeavingRest_63 : decode c_N_divideLeavingRest 63 = .ok (.invokevirtual 51, 3) := by decide +kernel
theorem d_N_divideLeavingRest_66 : decode c_N_divideLeavingRest 66 = .ok (.iinc 5 1, 3) := by decide +kernel
theorem d_N_divideLeavingRest_69 : decode c_N_divideLeavingRest 69 = .ok (.iload 5, 2) := by decide +kernel
theorem d_N_divideLeavingRest_71 : decode c_N_divideLeavingRest 71 = .ok (.ireturn, 1) := by decide +kernel
theorem zn_N_51 : zNV R_N 51 y_N_subtractTimes c_N_subtractTimes 6 none 2 := ⟨zco_N_subtractTimes, zin_N, zml_N_51, zim_N_subtractTimes, zse_N_N_subtractTimes, by decide +kernel⟩
theorem zn_N_55 : zNV R_N 55 y_N_order c_N_order 3 (some .int) 1 := ⟨zco_N_order, zin_N, zml_N_55, zim_N_order, zse_N_N_order, by decide +kernel⟩
set_option maxHeartbeats 4000000 in
set_option maxRecDepth 100000 in
theorem k_N_divideLeavingRest (κ : zC) (X : zXT) (hX : zX κ X) (l : Launch) (a_t a_o a_t_limbs a_o_limbs : Nat) (sz : Nat) (t_used : Int32) (t_limbs : Nat → Int32) (o_used : Int32) (o_limbs : Nat → Int32) (out : Int32 × ((Int32) × (Nat → Int32))) (hf : f_N_divideLeavingRest t_used t_limbs o_used o_limbs = some out) : zMet κ X l y_N_divideLeavingRest c_N_divideLeavingRest 6 (some .int) 2 46 [.ref a_t, .ref a_o] sz [(a_t, .inr (2, [.ref a_t_limbs, .int t_used])), (a_t_limbs, .inl (κ.2.1, 48, .inl t_limbs)), (a_o, .inr (2, [.ref a_o_limbs, .int o_used])), (a_o_limbs, .inl (κ.2.1, 48, .inl o_limbs))] (zQi κ (fun (r : Int32) (u : (Int32) × (Nat → Int32)) => (r, u) = out) (fun u => [(a_t, .inr (2, [.ref a_t_limbs, .int u.1])), (a_t_limbs, .inl (κ.2.1, 48, .inl u.2)), (a_o, .inr (2, [.ref a_o_limbs, .int o_used])), (a_o_limbs, .inl (κ.2.1, 48, .inl o_limbs))])) := by
  refine zMet.ofI (by decide +kernel) (Nat.le_of_ble_eq_true rfl) ?_
  intro p e s m args below meth c ls A Q hF hK hP hD hA hXs hS hl hret
  obtain ⟨hx, hb, hml, hown, hts⟩ := id hF
  obtain ⟨H, hH⟩ : ∃ H, H = s.heap := ⟨_, rfl⟩
  obtain ⟨locs, hlo⟩ : ∃ z : List Loc, z = [] := ⟨_, rfl⟩
  replace hP : zP κ [(a_t, .inr (2, [.ref a_t_limbs, .int t_used])), (a_t_limbs, .inl (κ.2.1, 48, .inl t_limbs)), (a_o, .inr (2, [.ref a_o_limbs, .int o_used])), (a_o_limbs, .inl (κ.2.1, 48, .inl o_limbs))] H := by rw [hH]; exact hP
  replace hS : va_S A s.heap H locs := by rw [hH, hlo]; exact hS
  suffices hgo : W p l e (zR 2 46) s m args below meth c H locs 0 0 Q (F0 m 0 ls []) by rw [hH, hlo] at hgo; exact hgo
  clear hH hlo
  replace hl : lv_has ls 6 [(0, .ref a_t), (1, .ref a_o)] := hl
  unfold f_N_divideLeavingRest at hf
  refine lv_aload_n hx hb d_N_divideLeavingRest_0 rfl (lv_at hl 1 rfl) ?_
  refine va_get (C := R_N) (T := F_N) (N := 2) hx hb hts i_N hown hK hP 2 rfl rfl 1 (by decide) (hts _ zfl_N_13) (fun _ h9 => h9) rfl d_N_divideLeavingRest_1 ?_
  refine lv_istore_n (lv' := [(2, .int o_used), (0, .ref a_t), (1, .ref a_o)]) hx hb d_N_divideLeavingRest_4 rfl hl (by decide) rfl (fun ls hl => ?_)
  refine lv_iload_n hx hb d_N_divideLeavingRest_5 rfl (lv_at hl 0 rfl) ?_
  refine lv_if_ne (tgt := 11) hx hb d_N_divideLeavingRest_6 (by decide) (fun c_6 => ?_) (fun c_6 => ?_)
  · have hf := (zbr hf).2 c_6
    refine lv_aload_n hx hb d_N_divideLeavingRest_11 rfl (lv_at hl 1 rfl) ?_
    refine lv_iload_n hx hb d_N_divideLeavingRest_12 rfl (lv_at hl 0 rfl) ?_
    obtain ⟨o_13, ho_13, hf⟩ := zbd hf
    refine zVi (isC := [0, 1]) (isR := [2, 3]) (isN := [2, 3, 0, 1]) (wc := [(a_t, .inr (2, [.ref a_t_limbs, .int t_used])), (a_t_limbs, .inl (κ.2.1, 48, .inl t_limbs))]) (wr := [(a_o, .inr (2, [.ref a_o_limbs, .int o_used])), (a_o_limbs, .inl (κ.2.1, 48, .inl o_limbs))]) (wn := fun u => [(a_t, .inr (2, [.ref a_t_limbs, .int t_used])), (a_t_limbs, .inl (κ.2.1, 48, .inl t_limbs)), (a_o, .inr (2, [.ref a_o_limbs, .int o_used])), (a_o_limbs, .inl (κ.2.1, 48, .inl o_limbs))]) (rest := []) (As := [.int o_used]) hF zn_N_33 (k_N_limbAt κ X hX l a_t a_t_limbs H.size t_used t_limbs o_used o_13 ho_13) hX hXs hK hA hP hD hS ⟨by decide, by decide⟩ ⟨rfl, rfl, rfl, rfl, rfl, by decide⟩ ⟨rfl, fun _ => rfl, fun _ => rfl⟩ (ci := 2) rfl rfl rfl rfl hl.1 rfl (Nat.le_of_ble_eq_true rfl) ⟨Nat.zero_le _, Nat.zero_le _⟩ d_N_divideLeavingRest_13 (fun r_13 u H locs hw hP hD hS => ?_)
    subst hw
    refine lv_i2l hx hb d_N_divideLeavingRest_16 rfl ?_
    refine lv_bipush (v := 30) hx hb d_N_divideLeavingRest_17 (by decide) ?_
    refine lv_lshl (v := (jlshl (r_13).toInt64 30)) hx hb d_N_divideLeavingRest_19 rfl ?_
    refine lv_aload_n hx hb d_N_divideLeavingRest_20 rfl (lv_at hl 1 rfl) ?_
    refine lv_iload_n hx hb d_N_divideLeavingRest_21 rfl (lv_at hl 0 rfl) ?_
    refine lv_iconst (v := 1) hx hb d_N_divideLeavingRest_22 (by decide) ?_
    refine lv_isub hx hb d_N_divideLeavingRest_23 ?_
    obtain ⟨o_24, ho_24, hf⟩ := zbd hf
    refine zVi (isC := [0, 1]) (isR := [2, 3]) (isN := [2, 3, 0, 1]) (wc := [(a_t, .inr (2, [.ref a_t_limbs, .int t_used])), (a_t_limbs, .inl (κ.2.1, 48, .inl t_limbs))]) (wr := [(a_o, .inr (2, [.ref a_o_limbs, .int o_used])), (a_o_limbs, .inl (κ.2.1, 48, .inl o_limbs))]) (wn := fun u => [(a_t, .inr (2, [.ref a_t_limbs, .int t_used])), (a_t_limbs, .inl (κ.2.1, 48, .inl t_limbs)), (a_o, .inr (2, [.ref a_o_limbs, .int o_used])), (a_o_limbs, .inl (κ.2.1, 48, .inl o_limbs))]) (rest := [.long (jlshl (r_13).toInt64 30)]) (As := [.int (o_used - 1)]) hF zn_N_33 (k_N_limbAt κ X hX l a_t a_t_limbs H.size t_used t_limbs (o_used - 1) o_24 ho_24) hX hXs hK hA hP hD hS ⟨by decide, by decide⟩ ⟨rfl, rfl, rfl, rfl, rfl, by decide⟩ ⟨rfl, fun _ => rfl, fun _ => rfl⟩ (ci := 2) rfl rfl rfl rfl hl.1 rfl (Nat.le_of_ble_eq_true rfl) ⟨Nat.zero_le _, Nat.zero_le _⟩ d_N_divideLeavingRest_24 (fun r_24 u H locs hw hP hD hS => ?_)
    subst hw
    refine lv_i2l hx hb d_N_divideLeavingRest_27 rfl ?_
    refine lv_lor hx hb d_N_divideLeavingRest_28 ?_
    refine lv_lstore_n (lv' := [(3, .long ((jlshl (r_13).toInt64 30) ||| (r_24).toInt64)), (2, .int o_used), (0, .ref a_t), (1, .ref a_o)]) hx hb d_N_divideLeavingRest_29 rfl hl (by decide) rfl (fun ls hl => ?_)
    refine lv_lload_n hx hb d_N_divideLeavingRest_30 rfl (lv_at hl 0 rfl) ?_
    refine lv_aload_n hx hb d_N_divideLeavingRest_31 rfl (lv_at hl 3 rfl) ?_
    refine lv_iload_n hx hb d_N_divideLeavingRest_32 rfl (lv_at hl 1 rfl) ?_
    refine lv_iconst (v := 1) hx hb d_N_divideLeavingRest_33 (by decide) ?_
    refine lv_isub hx hb d_N_divideLeavingRest_34 ?_
    obtain ⟨o_35, ho_35, hf⟩ := zbd hf
    refine zVi (isC := [2, 3]) (isR := [0, 1]) (isN := [0, 1, 2, 3]) (wc := [(a_o, .inr (2, [.ref a_o_limbs, .int o_used])), (a_o_limbs, .inl (κ.2.1, 48, .inl o_limbs))]) (wr := [(a_t, .inr (2, [.ref a_t_limbs, .int t_used])), (a_t_limbs, .inl (κ.2.1, 48, .inl t_limbs))]) (wn := fun u => [(a_t, .inr (2, [.ref a_t_limbs, .int t_used])), (a_t_limbs, .inl (κ.2.1, 48, .inl t_limbs)), (a_o, .inr (2, [.ref a_o_limbs, .int o_used])), (a_o_limbs, .inl (κ.2.1, 48, .inl o_limbs))]) (rest := [.long ((jlshl (r_13).toInt64 30) ||| (r_24).toInt64)]) (As := [.int (o_used - 1)]) hF zn_N_33 (k_N_limbAt κ X hX l a_o a_o_limbs H.size o_used o_limbs (o_used - 1) o_35 ho_35) hX hXs hK hA hP hD hS ⟨by decide, by decide⟩ ⟨rfl, rfl, rfl, rfl, rfl, by decide⟩ ⟨rfl, fun _ => rfl, fun _ => rfl⟩ (ci := 2) rfl rfl rfl rfl hl.1 rfl (Nat.le_of_ble_eq_true rfl) ⟨Nat.zero_le _, Nat.zero_le _⟩ d_N_divideLeavingRest_35 (fun r_35 u H locs hw hP hD hS => ?_)
    subst hw
    refine lv_i2l hx hb d_N_divideLeavingRest_38 rfl ?_
    refine lv_lconst (v := 1) hx hb d_N_divideLeavingRest_39 (by decide) ?_
    refine lv_ladd hx hb d_N_divideLeavingRest_40 ?_
    obtain ⟨g_41, hf⟩ := zgd hf
    refine lv_ldiv hx hb d_N_divideLeavingRest_41 g_41 ?_
    refine lv_l2i hx hb d_N_divideLeavingRest_42 rfl ?_
    refine lv_istore (lv' := [(5, .int ((((jlshl (r_13).toInt64 30) ||| (r_24).toInt64) / ((r_35).toInt64 + 1))).toInt32), (3, .long ((jlshl (r_13).toInt64 30) ||| (r_24).toInt64)), (2, .int o_used), (0, .ref a_t), (1, .ref a_o)]) hx hb d_N_divideLeavingRest_43 hl (by decide) rfl (fun ls hl => ?_)
    refine lv_aload_n hx hb d_N_divideLeavingRest_45 rfl (lv_at hl 3 rfl) ?_
    refine lv_aload_n hx hb d_N_divideLeavingRest_46 rfl (lv_at hl 4 rfl) ?_
    refine lv_iload hx hb d_N_divideLeavingRest_47 (lv_at hl 0 rfl) ?_
    obtain ⟨o_49, ho_49, hf⟩ := zbd hf
    refine zVv (isC := [0, 1, 2, 3]) (isR := []) (isN := [0, 1, 2, 3]) (wc := [(a_t, .inr (2, [.ref a_t_limbs, .int t_used])), (a_t_limbs, .inl (κ.2.1, 48, .inl t_limbs)), (a_o, .inr (2, [.ref a_o_limbs, .int o_used])), (a_o_limbs, .inl (κ.2.1, 48, .inl o_limbs))]) (wr := []) (wn := fun u => [(a_t, .inr (2, [.ref a_t_limbs, .int u.1])), (a_t_limbs, .inl (κ.2.1, 48, .inl u.2)), (a_o, .inr (2, [.ref a_o_limbs, .int o_used])), (a_o_limbs, .inl (κ.2.1, 48, .inl o_limbs))]) (rest := []) (As := [.ref a_o, .int ((((jlshl (r_13).toInt64 30) ||| (r_24).toInt64) / ((r_35).toInt64 + 1))).toInt32]) hF zn_N_51 (k_N_subtractTimes κ X hX l a_t a_o a_t_limbs a_o_limbs H.size t_used t_limbs o_used o_limbs (((((jlshl (r_13).toInt64 30) ||| (r_24).toInt64) / ((r_35).toInt64 + 1))).toInt32) o_49 ho_49) hX hXs hK hA hP hD hS ⟨by decide, by decide⟩ ⟨rfl, rfl, rfl, rfl, rfl, by decide⟩ ⟨rfl, fun _ => rfl, fun _ => rfl⟩ (ci := 2) rfl rfl rfl rfl hl.1 rfl (Nat.le_of_ble_eq_true rfl) ⟨Nat.zero_le _, Nat.zero_le _⟩ d_N_divideLeavingRest_49 (fun u H locs hw hP hD hS => ?_)
    obtain ⟨u49_t_used, u49_t_limbs⟩ := u
    have hP : zP κ [(a_t, .inr (2, [.ref a_t_limbs, .int u49_t_used])), (a_t_limbs, .inl (κ.2.1, 48, .inl u49_t_limbs)), (a_o, .inr (2, [.ref a_o_limbs, .int o_used])), (a_o_limbs, .inl (κ.2.1, 48, .inl o_limbs))] H := hP
    have hD : va_D A [(a_t, .inr (2, [.ref a_t_limbs, .int u49_t_used])), (a_t_limbs, .inl (κ.2.1, 48, .inl u49_t_limbs)), (a_o, .inr (2, [.ref a_o_limbs, .int o_used])), (a_o_limbs, .inl (κ.2.1, 48, .inl o_limbs))] := hD
    subst hw
    dsimp only at hf
    refine lv_aload_n hx hb d_N_divideLeavingRest_52 rfl (lv_at hl 3 rfl) ?_
    refine lv_aload_n hx hb d_N_divideLeavingRest_53 rfl (lv_at hl 4 rfl) ?_
    obtain ⟨o_54, ho_54, hf⟩ := zbd hf
    refine zVi (isC := [0, 1, 2, 3]) (isR := []) (isN := [0, 1, 2, 3]) (wc := [(a_t, .inr (2, [.ref a_t_limbs, .int u49_t_used])), (a_t_limbs, .inl (κ.2.1, 48, .inl u49_t_limbs)), (a_o, .inr (2, [.ref a_o_limbs, .int o_used])), (a_o_limbs, .inl (κ.2.1, 48, .inl o_limbs))]) (wr := []) (wn := fun u => [(a_t, .inr (2, [.ref a_t_limbs, .int u49_t_used])), (a_t_limbs, .inl (κ.2.1, 48, .inl u49_t_limbs)), (a_o, .inr (2, [.ref a_o_limbs, .int o_used])), (a_o_limbs, .inl (κ.2.1, 48, .inl o_limbs))]) (rest := []) (As := [.ref a_o]) hF zn_N_55 (k_N_order κ X hX l a_t a_o a_t_limbs a_o_limbs H.size u49_t_used u49_t_limbs o_used o_limbs o_54 ho_54) hX hXs hK hA hP hD hS ⟨by decide, by decide⟩ ⟨rfl, rfl, rfl, rfl, rfl, by decide⟩ ⟨rfl, fun _ => rfl, fun _ => rfl⟩ (ci := 2) rfl rfl rfl rfl hl.1 rfl (Nat.le_of_ble_eq_true rfl) ⟨Nat.zero_le _, Nat.zero_le _⟩ d_N_divideLeavingRest_54 (fun r_54 u H locs hw hP hD hS => ?_)
    subst hw
    refine lv_if_lt (tgt := 69) hx hb d_N_divideLeavingRest_57 (by decide) (fun c_57 => ?_) (fun c_57 => ?_)
    · have hf := (zbr hf).1 c_57
      refine lv_iload hx hb d_N_divideLeavingRest_69 (lv_at hl 0 rfl) ?_
      exact hret (((((jlshl (r_13).toInt64 30) ||| (r_24).toInt64) / ((r_35).toInt64 + 1))).toInt32) ((u49_t_used, u49_t_limbs)) H locs ls _ d_N_divideLeavingRest_71 hP hD hS (Option.some.inj hf)
    · have hf := (zbr hf).2 c_57
      refine lv_aload_n hx hb d_N_divideLeavingRest_60 rfl (lv_at hl 3 rfl) ?_
      refine lv_aload_n hx hb d_N_divideLeavingRest_61 rfl (lv_at hl 4 rfl) ?_
      refine lv_iconst (v := 1) hx hb d_N_divideLeavingRest_62 (by decide) ?_
      obtain ⟨o_63, ho_63, hf⟩ := zbd hf
      refine zVv (isC := [0, 1, 2, 3]) (isR := []) (isN := [0, 1, 2, 3]) (wc := [(a_t, .inr (2, [.ref a_t_limbs, .int u49_t_used])), (a_t_limbs, .inl (κ.2.1, 48, .inl u49_t_limbs)), (a_o, .inr (2, [.ref a_o_limbs, .int o_used])), (a_o_limbs, .inl (κ.2.1, 48, .inl o_limbs))]) (wr := []) (wn := fun u => [(a_t, .inr (2, [.ref a_t_limbs, .int u.1])), (a_t_limbs, .inl (κ.2.1, 48, .inl u.2)), (a_o, .inr (2, [.ref a_o_limbs, .int o_used])), (a_o_limbs, .inl (κ.2.1, 48, .inl o_limbs))]) (rest := []) (As := [.ref a_o, .int 1]) hF zn_N_51 (k_N_subtractTimes κ X hX l a_t a_o a_t_limbs a_o_limbs H.size u49_t_used u49_t_limbs o_used o_limbs 1 o_63 ho_63) hX hXs hK hA hP hD hS ⟨by decide, by decide⟩ ⟨rfl, rfl, rfl, rfl, rfl, by decide⟩ ⟨rfl, fun _ => rfl, fun _ => rfl⟩ (ci := 2) rfl rfl rfl rfl hl.1 rfl (Nat.le_of_ble_eq_true rfl) ⟨Nat.zero_le _, Nat.zero_le _⟩ d_N_divideLeavingRest_63 (fun u H locs hw hP hD hS => ?_)
      obtain ⟨u63_t_used, u63_t_limbs⟩ := u
      have hP : zP κ [(a_t, .inr (2, [.ref a_t_limbs, .int u63_t_used])), (a_t_limbs, .inl (κ.2.1, 48, .inl u63_t_limbs)), (a_o, .inr (2, [.ref a_o_limbs, .int o_used])), (a_o_limbs, .inl (κ.2.1, 48, .inl o_limbs))] H := hP
      have hD : va_D A [(a_t, .inr (2, [.ref a_t_limbs, .int u63_t_used])), (a_t_limbs, .inl (κ.2.1, 48, .inl u63_t_limbs)), (a_o, .inr (2, [.ref a_o_limbs, .int o_used])), (a_o_limbs, .inl (κ.2.1, 48, .inl o_limbs))] := hD
      subst hw
      dsimp only at hf
      refine lv_iinc (v := (((((jlshl (r_13).toInt64 30) ||| (r_24).toInt64) / ((r_35).toInt64 + 1))).toInt32 + 1)) (lv' := [(5, .int (((((jlshl (r_13).toInt64 30) ||| (r_24).toInt64) / ((r_35).toInt64 + 1))).toInt32 + 1)), (3, .long ((jlshl (r_13).toInt64 30) ||| (r_24).toInt64)), (2, .int o_used), (0, .ref a_t), (1, .ref a_o)]) hx hb d_N_divideLeavingRest_66 hl (k := 0) rfl rfl (by decide) rfl (fun ls hl => ?_)
      refine lv_iload hx hb d_N_divideLeavingRest_69 (lv_at hl 0 rfl) ?_
      exact hret ((((((jlshl (r_13).toInt64 30) ||| (r_24).toInt64) / ((r_35).toInt64 + 1))).toInt32 + 1)) ((u63_t_used, u63_t_limbs)) H locs ls _ d_N_divideLeavingRest_71 hP hD hS (Option.some.inj hf)
  · have hf := (zbr hf).1 c_6
    refine lv_iconst (v := 0) hx hb d_N_divideLeavingRest_9 (by decide) ?_
    exact hret ((0 : Int32)) ((t_used, t_limbs)) H locs ls _ d_N_divideLeavingRest_10 hP hD hS (Option.some.inj hf)
