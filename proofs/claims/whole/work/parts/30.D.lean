theorem d_D_put_0 : decode c_D_put 0 = .ok (.iload_n 3, 1) := by decide +kernel
theorem d_D_put_1 : decode c_D_put 1 = .ok (.iconst 1, 1) := by decide +kernel
theorem d_D_put_2 : decode c_D_put 2 = .ok (.if_icmp .lt 8, 3) := by decide +kernel
theorem d_D_put_5 : decode c_D_put 5 = .ok (.iload_n 3, 1) := by decide +kernel
theorem d_D_put_6 : decode c_D_put 6 = .ok (.iconst 4, 1) := by decide +kernel
theorem d_D_put_7 : decode c_D_put 7 = .ok (.if_icmp .le 13, 3) := by decide +kernel
theorem d_D_put_10 : decode c_D_put 10 = .ok (.new 23, 3) := by decide +kernel
theorem d_D_put_13 : decode c_D_put 13 = .ok (.dup, 1) := by decide +kernel
theorem d_D_put_14 : decode c_D_put 14 = .ok (.ldc 25, 2) := by decide +kernel
theorem d_D_put_16 : decode c_D_put 16 = .ok (.invokespecial 27, 3) := by decide +kernel
theorem d_D_put_19 : decode c_D_put 19 = .ok (.athrow, 1) := by decide +kernel
theorem d_D_put_20 : decode c_D_put 20 = .ok (.aload_n 0, 1) := by decide +kernel
theorem d_D_put_21 : decode c_D_put 21 = .ok (.getfield 10, 3) := by decide +kernel
theorem d_D_put_24 : decode c_D_put 24 = .ok (.iload_n 3, 1) := by decide +kernel
theorem d_D_put_25 : decode c_D_put 25 = .ok (.invokevirtual 30, 3) := by decide +kernel
theorem d_D_put_28 : decode c_D_put 28 = .ok (.ifCond .ne 13, 3) := by decide +kernel
theorem d_D_put_31 : decode c_D_put 31 = .ok (.new 34, 3) := by decide +kernel
theorem d_D_put_34 : decode c_D_put 34 = .ok (.dup, 1) := by decide +kernel
theorem d_D_put_35 : decode c_D_put 35 = .ok (.ldc 36, 2) := by decide +kernel
theorem d_D_put_37 : decode c_D_put 37 = .ok (.invokespecial 38, 3) := by decide +kernel
theorem d_D_put_40 : decode c_D_put 40 = .ok (.athrow, 1) := by decide +kernel
theorem d_D_put_41 : decode c_D_put 41 = .ok (.iload_n 3, 1) := by decide +kernel
theorem d_D_put_42 : decode c_D_put 42 = .ok (.iconst 1, 1) := by decide +kernel
theorem d_D_put_43 : decode c_D_put 43 = .ok (.isub, 1) := by decide +kernel
theorem d_D_put_44 : decode c_D_put 44 = .ok (.istore 4, 2) := by decide +kernel
theorem d_D_put_46 : decode c_D_put 46 = .ok (.iload 4, 2) := by decide +kernel
theorem d_D_put_48 : decode c_D_put 48 = .ok (.ifCond .lt 27, 3) := by decide +kernel
theorem d_D_put_51 : decode c_D_put 51 = .ok (.aload_n 0, 1) := by decide +kernel
theorem d_D_put_52 : decode c_D_put 52 = .ok (.getfield 10, 3) := by decide +kernel
theorem d_D_put_55 : decode c_D_put 55 = .ok (.lload_n 1, 1) := by decide +kernel
theorem d_D_put_56 : decode c_D_put 56 = .ok (.bipush 16, 2) := by decide +kernel
theorem d_D_put_58 : decode c_D_put 58 = .ok (.iload 4, 2) := by decide +kernel
theorem d_D_put_60 : decode c_D_put 60 = .ok (.imul, 1) := by decide +kernel
theorem d_D_put_61 : decode c_D_put 61 = .ok (.lushr, 1) := by decide +kernel
theorem d_D_put_62 : decode c_D_put 62 = .ok (.l2i, 1) := by decide +kernel
theorem d_D_put_63 : decode c_D_put 63 = .ok (.ldc 39, 2) := by decide +kernel
theorem d_D_put_65 : decode c_D_put 65 = .ok (.iand, 1) := by decide +kernel
theorem d_D_put_66 : decode c_D_put 66 = .ok (.invokevirtual 40, 3) := by decide +kernel
theorem d_D_put_69 : decode c_D_put 69 = .ok (.iinc 4 (-1), 3) := by decide +kernel
theorem d_D_put_72 : decode c_D_put 72 = .ok (.goto (-26), 3) := by decide +kernel
theorem d_D_put_75 : decode c_D_put 75 = .ok (.aload_n 0, 1) := by decide +kernel
theorem d_D_put_76 : decode c_D_put 76 = .ok (.getfield 10, 3) := by decide +kernel
theorem d_D_put_79 : decode c_D_put 79 = .ok (.invokevirtual 44, 3) := by decide +kernel
theorem d_D_put_82 : decode c_D_put 82 = .ok (.ireturn, 1) := by decide +kernel
theorem zn_D_30 : zNV R_D 30 y_R_hasRoomFor c_R_hasRoomFor 2 (some .boolean) 1 := ⟨zco_R_hasRoomFor, zin_R, zml_D_30, zim_R_hasRoomFor, zse_R_R_hasRoomFor, by decide +kernel⟩
theorem zn_D_40 : zNV R_D 40 y_R_append c_R_append 2 none 1 := ⟨zco_R_append, zin_R, zml_D_40, zim_R_append, zse_R_R_append, by decide +kernel⟩
theorem zn_D_44 : zNV R_D 44 y_R_length c_R_length 1 (some .int) 0 := ⟨zco_R_length, zin_R, zml_D_44, zim_R_length, zse_R_R_length, by decide +kernel⟩
set_option maxHeartbeats 4000000 in
set_option maxRecDepth 100000 in
theorem k_D_put (κ : zC) (X : zXT) (hX : zX κ X) (l : Launch) (a_t a_t_reader a_t_writer a_t_reader_units a_t_reader_numerator a_t_reader_denominator : Nat) (sz : Nat) (t_reader_count : Int32) (t_reader_at : Int32) (t_reader_end : Int32) (t_reader_counting : Int32) (t_reader_power : Int32) (t_reader_units : Nat → Int32) (x1 : Int64) (x3 : Int32) (out : Int32 × ((Int32) × (Nat → Int32))) (hf : f_D_put t_reader_count t_reader_at t_reader_end t_reader_counting t_reader_power t_reader_units x1 x3 = some out) : zMet κ X l y_D_put c_D_put 5 (some .int) 1 21 [.ref a_t, .long x1, .int x3] sz [(a_t, .inr (0, [.ref a_t_reader, .ref a_t_writer])), (a_t_reader, .inr (4, [.ref a_t_reader_units, .int t_reader_count, .int t_reader_at, .int t_reader_end, .ref a_t_reader_numerator, .ref a_t_reader_denominator, .int t_reader_counting, .int t_reader_power])), (a_t_reader_units, .inl (κ.2.1, 600, .inl t_reader_units))] (zQi κ (fun (r : Int32) (u : (Int32) × (Nat → Int32)) => (r, u) = out) (fun u => [(a_t, .inr (0, [.ref a_t_reader, .ref a_t_writer])), (a_t_reader, .inr (4, [.ref a_t_reader_units, .int u.1, .int t_reader_at, .int t_reader_end, .ref a_t_reader_numerator, .ref a_t_reader_denominator, .int t_reader_counting, .int t_reader_power])), (a_t_reader_units, .inl (κ.2.1, 600, .inl u.2))])) := by
  refine zMet.ofI (by decide +kernel) (Nat.le_of_ble_eq_true rfl) ?_
  intro p e s m args below meth c ls A Q hF hK hP hD hA hXs hS hl hret
  obtain ⟨hx, hb, hml, hown, hts⟩ := id hF
  obtain ⟨H, hH⟩ : ∃ H, H = s.heap := ⟨_, rfl⟩
  obtain ⟨locs, hlo⟩ : ∃ z : List Loc, z = [] := ⟨_, rfl⟩
  replace hP : zP κ [(a_t, .inr (0, [.ref a_t_reader, .ref a_t_writer])), (a_t_reader, .inr (4, [.ref a_t_reader_units, .int t_reader_count, .int t_reader_at, .int t_reader_end, .ref a_t_reader_numerator, .ref a_t_reader_denominator, .int t_reader_counting, .int t_reader_power])), (a_t_reader_units, .inl (κ.2.1, 600, .inl t_reader_units))] H := by rw [hH]; exact hP
  replace hS : va_S A s.heap H locs := by rw [hH, hlo]; exact hS
  suffices hgo : W p l e (zR 1 21) s m args below meth c H locs 0 0 Q (F0 m 0 ls []) by rw [hH, hlo] at hgo; exact hgo
  clear hH hlo
  replace hl : lv_has ls 5 [(0, .ref a_t), (1, .long x1), (3, .int x3)] := hl
  have b_75 : ∀ (t_reader_count : Int32) (t_reader_units : Nat → Int32) (H : Heap) (locs : List Loc) (ls : Array Slot), f_D_put_75 t_reader_count t_reader_at t_reader_end t_reader_counting t_reader_power t_reader_units = some out → zP κ [(a_t, .inr (0, [.ref a_t_reader, .ref a_t_writer])), (a_t_reader, .inr (4, [.ref a_t_reader_units, .int t_reader_count, .int t_reader_at, .int t_reader_end, .ref a_t_reader_numerator, .ref a_t_reader_denominator, .int t_reader_counting, .int t_reader_power])), (a_t_reader_units, .inl (κ.2.1, 600, .inl t_reader_units))] H → va_D A [(a_t, .inr (0, [.ref a_t_reader, .ref a_t_writer])), (a_t_reader, .inr (4, [.ref a_t_reader_units, .int t_reader_count, .int t_reader_at, .int t_reader_end, .ref a_t_reader_numerator, .ref a_t_reader_denominator, .int t_reader_counting, .int t_reader_power])), (a_t_reader_units, .inl (κ.2.1, 600, .inl t_reader_units))] → va_S A s.heap H locs → lv_has ls 5 [(0, .ref a_t)] → W p l e (zR 1 21) s m args below meth c H locs 0 0 Q (F0 m 75 ls []) := by
    intro t_reader_count t_reader_units H locs ls hf hP hD hS hl
    unfold f_D_put_75 at hf
    refine lv_aload_n hx hb d_D_put_75 rfl (lv_at hl 0 rfl) ?_
    refine va_get (C := R_D) (T := F_D) (N := 2) hx hb hts i_D hown hK hP 0 rfl rfl 0 (by decide) (hts _ zfl_D_10) (fun _ h9 => h9) rfl d_D_put_76 ?_
    obtain ⟨o_79, ho_79, hf⟩ := zbd hf
    refine zVi (isC := [1]) (isR := [0, 2]) (isN := [0, 2, 1]) (wc := [(a_t_reader, .inr (4, [.ref a_t_reader_units, .int t_reader_count, .int t_reader_at, .int t_reader_end, .ref a_t_reader_numerator, .ref a_t_reader_denominator, .int t_reader_counting, .int t_reader_power]))]) (wr := [(a_t, .inr (0, [.ref a_t_reader, .ref a_t_writer])), (a_t_reader_units, .inl (κ.2.1, 600, .inl t_reader_units))]) (wn := fun u => [(a_t, .inr (0, [.ref a_t_reader, .ref a_t_writer])), (a_t_reader, .inr (4, [.ref a_t_reader_units, .int t_reader_count, .int t_reader_at, .int t_reader_end, .ref a_t_reader_numerator, .ref a_t_reader_denominator, .int t_reader_counting, .int t_reader_power])), (a_t_reader_units, .inl (κ.2.1, 600, .inl t_reader_units))]) (rest := []) (As := []) hF zn_D_44 (k_R_length κ X hX l a_t_reader a_t_reader_units a_t_reader_numerator a_t_reader_denominator H.size t_reader_count t_reader_at t_reader_end t_reader_counting t_reader_power o_79 ho_79) hX hXs hK hA hP hD hS ⟨by decide, by decide⟩ ⟨rfl, rfl, rfl, rfl, rfl, by decide⟩ ⟨rfl, fun _ => rfl, fun _ => rfl⟩ (ci := 4) rfl rfl rfl rfl hl.1 rfl (Nat.le_of_ble_eq_true rfl) ⟨Nat.zero_le _, Nat.zero_le _⟩ d_D_put_79 (fun r_79 u H locs hw hP hD hS => ?_)
    subst hw
    exact hret (r_79) ((t_reader_count, t_reader_units)) H locs ls _ d_D_put_82 hP hD hS (Option.some.inj hf)
  have b_46 : ∀ (t_reader_count : Int32) (t_reader_units : Nat → Int32) (x1 : Int64) (x4 : Int32) (H : Heap) (locs : List Loc) (ls : Array Slot), f_D_put_46 t_reader_count t_reader_at t_reader_end t_reader_counting t_reader_power t_reader_units x1 x4 = some out → zP κ [(a_t, .inr (0, [.ref a_t_reader, .ref a_t_writer])), (a_t_reader, .inr (4, [.ref a_t_reader_units, .int t_reader_count, .int t_reader_at, .int t_reader_end, .ref a_t_reader_numerator, .ref a_t_reader_denominator, .int t_reader_counting, .int t_reader_power])), (a_t_reader_units, .inl (κ.2.1, 600, .inl t_reader_units))] H → va_D A [(a_t, .inr (0, [.ref a_t_reader, .ref a_t_writer])), (a_t_reader, .inr (4, [.ref a_t_reader_units, .int t_reader_count, .int t_reader_at, .int t_reader_end, .ref a_t_reader_numerator, .ref a_t_reader_denominator, .int t_reader_counting, .int t_reader_power])), (a_t_reader_units, .inl (κ.2.1, 600, .inl t_reader_units))] → va_S A s.heap H locs → lv_has ls 5 [(0, .ref a_t), (1, .long x1), (4, .int x4)] → W p l e (zR 1 21) s m args below meth c H locs 0 0 Q (F0 m 46 ls []) := by
    intro t_reader_count t_reader_units x1 x4 H locs ls hf hP hD hS hl
    refine zrun_ind (P := fun z : (Int32) × (Nat → Int32) × (Int32) => ∀ (H : Heap) (locs : List Loc) (ls : Array Slot), zP κ [(a_t, .inr (0, [.ref a_t_reader, .ref a_t_writer])), (a_t_reader, .inr (4, [.ref a_t_reader_units, .int z.1, .int t_reader_at, .int t_reader_end, .ref a_t_reader_numerator, .ref a_t_reader_denominator, .int t_reader_counting, .int t_reader_power])), (a_t_reader_units, .inl (κ.2.1, 600, .inl z.2.1))] H → va_D A [(a_t, .inr (0, [.ref a_t_reader, .ref a_t_writer])), (a_t_reader, .inr (4, [.ref a_t_reader_units, .int z.1, .int t_reader_at, .int t_reader_end, .ref a_t_reader_numerator, .ref a_t_reader_denominator, .int t_reader_counting, .int t_reader_power])), (a_t_reader_units, .inl (κ.2.1, 600, .inl z.2.1))] → va_S A s.heap H locs → lv_has ls 5 [(0, .ref a_t), (1, .long x1), (4, .int z.2.2)] → W p l e (zR 1 21) s m args below meth c H locs 0 0 Q (F0 m 46 ls [])) ?_ hf H locs ls hP hD hS hl
    clear hf hP hD hS hl H locs ls t_reader_count t_reader_units x4
    intro z ih hne hexit_46 H locs ls hP hD hS hl
    obtain ⟨q_46, hf⟩ := zne hne
    have hback_46 := fun y (e : q_46 = .inl y) => ih y (e ▸ hf)
    replace hexit_46 := fun y (e : q_46 = .inr y) => hexit_46 y (e ▸ hf)
    clear ih hne
    obtain ⟨t_reader_count, t_reader_units, x4⟩ := z
    replace hf : f_D_put_46_body t_reader_at t_reader_end t_reader_counting t_reader_power x1 t_reader_count t_reader_units x4 = some q_46 := hf
    replace hP : zP κ [(a_t, .inr (0, [.ref a_t_reader, .ref a_t_writer])), (a_t_reader, .inr (4, [.ref a_t_reader_units, .int t_reader_count, .int t_reader_at, .int t_reader_end, .ref a_t_reader_numerator, .ref a_t_reader_denominator, .int t_reader_counting, .int t_reader_power])), (a_t_reader_units, .inl (κ.2.1, 600, .inl t_reader_units))] H := hP
    replace hD : va_D A [(a_t, .inr (0, [.ref a_t_reader, .ref a_t_writer])), (a_t_reader, .inr (4, [.ref a_t_reader_units, .int t_reader_count, .int t_reader_at, .int t_reader_end, .ref a_t_reader_numerator, .ref a_t_reader_denominator, .int t_reader_counting, .int t_reader_power])), (a_t_reader_units, .inl (κ.2.1, 600, .inl t_reader_units))] := hD
    replace hl : lv_has ls 5 [(0, .ref a_t), (1, .long x1), (4, .int x4)] := hl
    unfold f_D_put_46_body at hf
    refine lv_iload hx hb d_D_put_46 (lv_at hl 2 rfl) ?_
    refine lv_if_lt (tgt := 75) hx hb d_D_put_48 (by decide) (fun c_48 => ?_) (fun c_48 => ?_)
    · have hf := (zbr hf).1 c_48
      have hf := zex hf hexit_46
      exact b_75 t_reader_count t_reader_units H locs ls hf hP hD hS (lv_sub hl [0] rfl)
    · have hf := (zbr hf).2 c_48
      refine lv_aload_n hx hb d_D_put_51 rfl (lv_at hl 0 rfl) ?_
      refine va_get (C := R_D) (T := F_D) (N := 2) hx hb hts i_D hown hK hP 0 rfl rfl 0 (by decide) (hts _ zfl_D_10) (fun _ h9 => h9) rfl d_D_put_52 ?_
      refine lv_lload_n hx hb d_D_put_55 rfl (lv_at hl 1 rfl) ?_
      refine lv_bipush (v := 16) hx hb d_D_put_56 (by decide) ?_
      refine lv_iload hx hb d_D_put_58 (lv_at hl 2 rfl) ?_
      refine lv_imul hx hb d_D_put_60 ?_
      refine lv_lushr (v := (jlushr x1 (16 * x4))) hx hb d_D_put_61 rfl ?_
      refine lv_l2i hx hb d_D_put_62 rfl ?_
      refine lv_ldc (v := 65535) hx hb hown (hts _ zki_D_39) d_D_put_63 ?_
      refine lv_iand hx hb d_D_put_65 ?_
      obtain ⟨o_66, ho_66, hf⟩ := zbd hf
      refine zVv (isC := [1, 2]) (isR := [0]) (isN := [0, 1, 2]) (wc := [(a_t_reader, .inr (4, [.ref a_t_reader_units, .int t_reader_count, .int t_reader_at, .int t_reader_end, .ref a_t_reader_numerator, .ref a_t_reader_denominator, .int t_reader_counting, .int t_reader_power])), (a_t_reader_units, .inl (κ.2.1, 600, .inl t_reader_units))]) (wr := [(a_t, .inr (0, [.ref a_t_reader, .ref a_t_writer]))]) (wn := fun u => [(a_t, .inr (0, [.ref a_t_reader, .ref a_t_writer])), (a_t_reader, .inr (4, [.ref a_t_reader_units, .int u.1, .int t_reader_at, .int t_reader_end, .ref a_t_reader_numerator, .ref a_t_reader_denominator, .int t_reader_counting, .int t_reader_power])), (a_t_reader_units, .inl (κ.2.1, 600, .inl u.2))]) (rest := []) (As := [.int (((jlushr x1 (16 * x4))).toInt32 &&& 65535)]) hF zn_D_40 (k_R_append κ X hX l a_t_reader a_t_reader_units a_t_reader_numerator a_t_reader_denominator H.size t_reader_count t_reader_at t_reader_end t_reader_counting t_reader_power t_reader_units (((jlushr x1 (16 * x4))).toInt32 &&& 65535) o_66 ho_66) hX hXs hK hA hP hD hS ⟨by decide, by decide⟩ ⟨rfl, rfl, rfl, rfl, rfl, by decide⟩ ⟨rfl, fun _ => rfl, fun _ => rfl⟩ (ci := 4) rfl rfl rfl rfl hl.1 rfl (Nat.le_of_ble_eq_true rfl) ⟨Nat.zero_le _, Nat.zero_le _⟩ d_D_put_66 (fun u H locs hw hP hD hS => ?_)
      obtain ⟨u66_t_reader_count, u66_t_reader_units⟩ := u
      have hP : zP κ [(a_t, .inr (0, [.ref a_t_reader, .ref a_t_writer])), (a_t_reader, .inr (4, [.ref a_t_reader_units, .int u66_t_reader_count, .int t_reader_at, .int t_reader_end, .ref a_t_reader_numerator, .ref a_t_reader_denominator, .int t_reader_counting, .int t_reader_power])), (a_t_reader_units, .inl (κ.2.1, 600, .inl u66_t_reader_units))] H := hP
      have hD : va_D A [(a_t, .inr (0, [.ref a_t_reader, .ref a_t_writer])), (a_t_reader, .inr (4, [.ref a_t_reader_units, .int u66_t_reader_count, .int t_reader_at, .int t_reader_end, .ref a_t_reader_numerator, .ref a_t_reader_denominator, .int t_reader_counting, .int t_reader_power])), (a_t_reader_units, .inl (κ.2.1, 600, .inl u66_t_reader_units))] := hD
      subst hw
      dsimp only at hf
      refine lv_iinc (v := (x4 + (-1))) (lv' := [(4, .int (x4 + (-1))), (0, .ref a_t), (1, .long x1)]) hx hb d_D_put_69 hl (k := 2) rfl rfl (by decide) rfl (fun ls hl => ?_)
      refine lv_goto (tgt := 46) hx hb d_D_put_72 (by decide) ?_
      exact hback_46 _ (Option.some.inj hf).symm H locs ls hP hD hS (lv_sub hl [1, 2, 0] rfl)
  unfold f_D_put at hf
  refine lv_iload_n hx hb d_D_put_0 rfl (lv_at hl 2 rfl) ?_
  refine lv_iconst (v := 1) hx hb d_D_put_1 (by decide) ?_
  refine lv_icmp_lt (tgt := 10) hx hb d_D_put_2 (by decide) (fun c_2 => ?_) (fun c_2 => ?_)
  · have hf := (zbr hf).1 c_2
    cases hf
  · have hf := (zbr hf).2 c_2
    refine lv_iload_n hx hb d_D_put_5 rfl (lv_at hl 2 rfl) ?_
    refine lv_iconst (v := 4) hx hb d_D_put_6 (by decide) ?_
    refine lv_icmp_le (tgt := 20) hx hb d_D_put_7 (by decide) (fun c_7 => ?_) (fun c_7 => ?_)
    · have hf := (zbr hf).1 c_7
      refine lv_aload_n hx hb d_D_put_20 rfl (lv_at hl 0 rfl) ?_
      refine va_get (C := R_D) (T := F_D) (N := 2) hx hb hts i_D hown hK hP 0 rfl rfl 0 (by decide) (hts _ zfl_D_10) (fun _ h9 => h9) rfl d_D_put_21 ?_
      refine lv_iload_n hx hb d_D_put_24 rfl (lv_at hl 2 rfl) ?_
      obtain ⟨o_25, ho_25, hf⟩ := zbd hf
      refine zVi (isC := [1]) (isR := [0, 2]) (isN := [0, 2, 1]) (wc := [(a_t_reader, .inr (4, [.ref a_t_reader_units, .int t_reader_count, .int t_reader_at, .int t_reader_end, .ref a_t_reader_numerator, .ref a_t_reader_denominator, .int t_reader_counting, .int t_reader_power]))]) (wr := [(a_t, .inr (0, [.ref a_t_reader, .ref a_t_writer])), (a_t_reader_units, .inl (κ.2.1, 600, .inl t_reader_units))]) (wn := fun u => [(a_t, .inr (0, [.ref a_t_reader, .ref a_t_writer])), (a_t_reader, .inr (4, [.ref a_t_reader_units, .int t_reader_count, .int t_reader_at, .int t_reader_end, .ref a_t_reader_numerator, .ref a_t_reader_denominator, .int t_reader_counting, .int t_reader_power])), (a_t_reader_units, .inl (κ.2.1, 600, .inl t_reader_units))]) (rest := []) (As := [.int x3]) hF zn_D_30 (k_R_hasRoomFor κ X hX l a_t_reader a_t_reader_units a_t_reader_numerator a_t_reader_denominator H.size t_reader_count t_reader_at t_reader_end t_reader_counting t_reader_power x3 o_25 ho_25) hX hXs hK hA hP hD hS ⟨by decide, by decide⟩ ⟨rfl, rfl, rfl, rfl, rfl, by decide⟩ ⟨rfl, fun _ => rfl, fun _ => rfl⟩ (ci := 4) rfl rfl rfl rfl hl.1 rfl (Nat.le_of_ble_eq_true rfl) ⟨Nat.zero_le _, Nat.zero_le _⟩ d_D_put_25 (fun r_25 u H locs hw hP hD hS => ?_)
      subst hw
      refine lv_if_ne (tgt := 41) hx hb d_D_put_28 (by decide) (fun c_28 => ?_) (fun c_28 => ?_)
      · have hf := (zbr hf).2 c_28
        refine lv_iload_n hx hb d_D_put_41 rfl (lv_at hl 2 rfl) ?_
        refine lv_iconst (v := 1) hx hb d_D_put_42 (by decide) ?_
        refine lv_isub hx hb d_D_put_43 ?_
        refine lv_istore (lv' := [(4, .int (x3 - 1)), (0, .ref a_t), (1, .long x1), (3, .int x3)]) hx hb d_D_put_44 hl (by decide) rfl (fun ls hl => ?_)
        exact b_46 t_reader_count t_reader_units x1 (x3 - 1) H locs ls hf hP hD hS (lv_sub hl [1, 2, 0] rfl)
      · have hf := (zbr hf).1 c_28
        cases hf
    · have hf := (zbr hf).2 c_7
      cases hf
theorem d_D_read_0 : decode c_D_read 0 = .ok (.aload_n 0, 1) := by decide +kernel
theorem d_D_read_1 : decode c_D_read 1 = .ok (.getfield 10, 3) := by decide +kernel
theorem d_D_read_4 : decode c_D_read 4 = .ok (.invokevirtual 48, 3) := by decide +kernel
theorem d_D_read_7 : decode c_D_read 7 = .ok (.lstore_n 1, 1) := by decide +kernel
theorem d_D_read_8 : decode c_D_read 8 = .ok (.aload_n 0, 1) := by decide +kernel
theorem d_D_read_9 : decode c_D_read 9 = .ok (.getfield 10, 3) := by decide +kernel
theorem d_D_read_12 : decode c_D_read 12 = .ok (.invokevirtual 52, 3) := by decide +kernel
theorem d_D_read_15 : decode c_D_read 15 = .ok (.lload_n 1, 1) := by decide +kernel
theorem d_D_read_16 : decode c_D_read 16 = .ok (.lreturn, 1) := by decide +kernel
theorem zn_D_48 : zNV R_D 48 y_R_numberOfText c_R_numberOfText 3 (some .long) 0 := ⟨zco_R_numberOfText, zin_R, zml_D_48, zim_R_numberOfText, zse_R_R_numberOfText, by decide +kernel⟩
theorem zn_D_52 : zNV R_D 52 y_R_clear c_R_clear 1 none 0 := ⟨zco_R_clear, zin_R, zml_D_52, zim_R_clear, zse_R_R_clear, by decide +kernel⟩
set_option maxHeartbeats 4000000 in
set_option maxRecDepth 100000 in
theorem k_D_read (κ : zC) (X : zXT) (hX : zX κ X) (l : Launch) (a_t a_t_reader a_t_writer a_t_reader_units a_t_reader_numerator a_t_reader_denominator a_t_reader_numerator_limbs a_t_reader_denominator_limbs : Nat) (sz : Nat) (t_reader_count : Int32) (t_reader_at : Int32) (t_reader_end : Int32) (t_reader_counting : Int32) (t_reader_power : Int32) (t_reader_units : Nat → Int32) (t_reader_numerator_used : Int32) (t_reader_numerator_limbs : Nat → Int32) (t_reader_denominator_used : Int32) (t_reader_denominator_limbs : Nat → Int32) (out : Int64 × ((Int32) × (Int32) × (Int32) × (Int32) × (Int32) × (Int32) × (Nat → Int32) × (Int32) × (Nat → Int32))) (hf : f_D_read t_reader_count t_reader_at t_reader_end t_reader_counting t_reader_power t_reader_units t_reader_numerator_used t_reader_numerator_limbs t_reader_denominator_used t_reader_denominator_limbs = some out) : zMet κ X l y_D_read c_D_read 3 (some .long) 6 139 [.ref a_t] sz [(a_t, .inr (0, [.ref a_t_reader, .ref a_t_writer])), (a_t_reader, .inr (4, [.ref a_t_reader_units, .int t_reader_count, .int t_reader_at, .int t_reader_end, .ref a_t_reader_numerator, .ref a_t_reader_denominator, .int t_reader_counting, .int t_reader_power])), (a_t_reader_units, .inl (κ.2.1, 600, .inl t_reader_units)), (a_t_reader_numerator, .inr (2, [.ref a_t_reader_numerator_limbs, .int t_reader_numerator_used])), (a_t_reader_numerator_limbs, .inl (κ.2.1, 48, .inl t_reader_numerator_limbs)), (a_t_reader_denominator, .inr (2, [.ref a_t_reader_denominator_limbs, .int t_reader_denominator_used])), (a_t_reader_denominator_limbs, .inl (κ.2.1, 48, .inl t_reader_denominator_limbs))] (zQl κ (fun (r : Int64) (u : (Int32) × (Int32) × (Int32) × (Int32) × (Int32) × (Int32) × (Nat → Int32) × (Int32) × (Nat → Int32)) => (r, u) = out) (fun u => [(a_t, .inr (0, [.ref a_t_reader, .ref a_t_writer])), (a_t_reader, .inr (4, [.ref a_t_reader_units, .int u.1, .int u.2.1, .int u.2.2.1, .ref a_t_reader_numerator, .ref a_t_reader_denominator, .int u.2.2.2.1, .int u.2.2.2.2.1])), (a_t_reader_units, .inl (κ.2.1, 600, .inl t_reader_units)), (a_t_reader_numerator, .inr (2, [.ref a_t_reader_numerator_limbs, .int u.2.2.2.2.2.1])), (a_t_reader_numerator_limbs, .inl (κ.2.1, 48, .inl u.2.2.2.2.2.2.1)), (a_t_reader_denominator, .inr (2, [.ref a_t_reader_denominator_limbs, .int u.2.2.2.2.2.2.2.1])), (a_t_reader_denominator_limbs, .inl (κ.2.1, 48, .inl u.2.2.2.2.2.2.2.2))])) := by
  refine zMet.ofL (by decide +kernel) (Nat.le_of_ble_eq_true rfl) ?_
  intro p e s m args below meth c ls A Q hF hK hP hD hA hXs hS hl hret
  obtain ⟨hx, hb, hml, hown, hts⟩ := id hF
  obtain ⟨H, hH⟩ : ∃ H, H = s.heap := ⟨_, rfl⟩
  obtain ⟨locs, hlo⟩ : ∃ z : List Loc, z = [] := ⟨_, rfl⟩
  replace hP : zP κ [(a_t, .inr (0, [.ref a_t_reader, .ref a_t_writer])), (a_t_reader, .inr (4, [.ref a_t_reader_units, .int t_reader_count, .int t_reader_at, .int t_reader_end, .ref a_t_reader_numerator, .ref a_t_reader_denominator, .int t_reader_counting, .int t_reader_power])), (a_t_reader_units, .inl (κ.2.1, 600, .inl t_reader_units)), (a_t_reader_numerator, .inr (2, [.ref a_t_reader_numerator_limbs, .int t_reader_numerator_used])), (a_t_reader_numerator_limbs, .inl (κ.2.1, 48, .inl t_reader_numerator_limbs)), (a_t_reader_denominator, .inr (2, [.ref a_t_reader_denominator_limbs, .int t_reader_denominator_used])), (a_t_reader_denominator_limbs, .inl (κ.2.1, 48, .inl t_reader_denominator_limbs))] H := by rw [hH]; exact hP
  replace hS : va_S A s.heap H locs := by rw [hH, hlo]; exact hS
  suffices hgo : W p l e (zR 6 139) s m args below meth c H locs 0 0 Q (F0 m 0 ls []) by rw [hH, hlo] at hgo; exact hgo
  clear hH hlo
  replace hl : lv_has ls 3 [(0, .ref a_t)] := hl
  unfold f_D_read at hf
  refine lv_aload_n hx hb d_D_read_0 rfl (lv_at hl 0 rfl) ?_
  refine va_get (C := R_D) (T := F_D) (N := 2) hx hb hts i_D hown hK hP 0 rfl rfl 0 (by decide) (hts _ zfl_D_10) (fun _ h9 => h9) rfl d_D_read_1 ?_
  obtain ⟨o_4, ho_4, hf⟩ := zbd hf
  refine zVl (isC := [1, 2, 3, 4, 5, 6]) (isR := [0]) (isN := [0, 1, 2, 3, 4, 5, 6]) (wc := [(a_t_reader, .inr (4, [.ref a_t_reader_units, .int t_reader_count, .int t_reader_at, .int t_reader_end, .ref a_t_reader_numerator, .ref a_t_reader_denominator, .int t_reader_counting, .int t_reader_power])), (a_t_reader_units, .inl (κ.2.1, 600, .inl t_reader_units)), (a_t_reader_numerator, .inr (2, [.ref a_t_reader_numerator_limbs, .int t_reader_numerator_used])), (a_t_reader_numerator_limbs, .inl (κ.2.1, 48, .inl t_reader_numerator_limbs)), (a_t_reader_denominator, .inr (2, [.ref a_t_reader_denominator_limbs, .int t_reader_denominator_used])), (a_t_reader_denominator_limbs, .inl (κ.2.1, 48, .inl t_reader_denominator_limbs))]) (wr := [(a_t, .inr (0, [.ref a_t_reader, .ref a_t_writer]))]) (wn := fun u => [(a_t, .inr (0, [.ref a_t_reader, .ref a_t_writer])), (a_t_reader, .inr (4, [.ref a_t_reader_units, .int t_reader_count, .int u.1, .int u.2.1, .ref a_t_reader_numerator, .ref a_t_reader_denominator, .int u.2.2.1, .int u.2.2.2.1])), (a_t_reader_units, .inl (κ.2.1, 600, .inl t_reader_units)), (a_t_reader_numerator, .inr (2, [.ref a_t_reader_numerator_limbs, .int u.2.2.2.2.1])), (a_t_reader_numerator_limbs, .inl (κ.2.1, 48, .inl u.2.2.2.2.2.1)), (a_t_reader_denominator, .inr (2, [.ref a_t_reader_denominator_limbs, .int u.2.2.2.2.2.2.1])), (a_t_reader_denominator_limbs, .inl (κ.2.1, 48, .inl u.2.2.2.2.2.2.2))]) (rest := []) (As := []) hF zn_D_48 (k_R_numberOfText κ X hX l a_t_reader a_t_reader_units a_t_reader_numerator a_t_reader_denominator a_t_reader_numerator_limbs a_t_reader_denominator_limbs H.size t_reader_count t_reader_at t_reader_end t_reader_counting t_reader_power t_reader_units t_reader_numerator_used t_reader_numerator_limbs t_reader_denominator_used t_reader_denominator_limbs o_4 ho_4) hX hXs hK hA hP hD hS ⟨by decide, by decide⟩ ⟨rfl, rfl, rfl, rfl, rfl, by decide⟩ ⟨rfl, fun _ => rfl, fun _ => rfl⟩ (ci := 4) rfl rfl rfl rfl hl.1 rfl (Nat.le_of_ble_eq_true rfl) ⟨Nat.zero_le _, Nat.zero_le _⟩ d_D_read_4 (fun r_4 u H locs hw hP hD hS => ?_)
  obtain ⟨u4_t_reader_at, u4_t_reader_end, u4_t_reader_counting, u4_t_reader_power, u4_t_reader_numerator_used, u4_t_reader_numerator_limbs, u4_t_reader_denominator_used, u4_t_reader_denominator_limbs⟩ := u
  have hP : zP κ [(a_t, .inr (0, [.ref a_t_reader, .ref a_t_writer])), (a_t_reader, .inr (4, [.ref a_t_reader_units, .int t_reader_count, .int u4_t_reader_at, .int u4_t_reader_end, .ref a_t_reader_numerator, .ref a_t_reader_denominator, .int u4_t_reader_counting, .int u4_t_reader_power])), (a_t_reader_units, .inl (κ.2.1, 600, .inl t_reader_units)), (a_t_reader_numerator, .inr (2, [.ref a_t_reader_numerator_limbs, .int u4_t_reader_numerator_used])), (a_t_reader_numerator_limbs, .inl (κ.2.1, 48, .inl u4_t_reader_numerator_limbs)), (a_t_reader_denominator, .inr (2, [.ref a_t_reader_denominator_limbs, .int u4_t_reader_denominator_used])), (a_t_reader_denominator_limbs, .inl (κ.2.1, 48, .inl u4_t_reader_denominator_limbs))] H := hP
  have hD : va_D A [(a_t, .inr (0, [.ref a_t_reader, .ref a_t_writer])), (a_t_reader, .inr (4, [.ref a_t_reader_units, .int t_reader_count, .int u4_t_reader_at, .int u4_t_reader_end, .ref a_t_reader_numerator, .ref a_t_reader_denominator, .int u4_t_reader_counting, .int u4_t_reader_power])), (a_t_reader_units, .inl (κ.2.1, 600, .inl t_reader_units)), (a_t_reader_numerator, .inr (2, [.ref a_t_reader_numerator_limbs, .int u4_t_reader_numerator_used])), (a_t_reader_numerator_limbs, .inl (κ.2.1, 48, .inl u4_t_reader_numerator_limbs)), (a_t_reader_denominator, .inr (2, [.ref a_t_reader_denominator_limbs, .int u4_t_reader_denominator_used])), (a_t_reader_denominator_limbs, .inl (κ.2.1, 48, .inl u4_t_reader_denominator_limbs))] := hD
  subst hw
  dsimp only at hf
  refine lv_lstore_n (lv' := [(1, .long r_4), (0, .ref a_t)]) hx hb d_D_read_7 rfl hl (by decide) rfl (fun ls hl => ?_)
  refine lv_aload_n hx hb d_D_read_8 rfl (lv_at hl 1 rfl) ?_
  refine va_get (C := R_D) (T := F_D) (N := 2) hx hb hts i_D hown hK hP 0 rfl rfl 0 (by decide) (hts _ zfl_D_10) (fun _ h9 => h9) rfl d_D_read_9 ?_
  obtain ⟨o_12, ho_12, hf⟩ := zbd hf
  refine zVv (isC := [1]) (isR := [0, 2, 3, 4, 5, 6]) (isN := [0, 6, 1, 2, 3, 4, 5]) (wc := [(a_t_reader, .inr (4, [.ref a_t_reader_units, .int t_reader_count, .int u4_t_reader_at, .int u4_t_reader_end, .ref a_t_reader_numerator, .ref a_t_reader_denominator, .int u4_t_reader_counting, .int u4_t_reader_power]))]) (wr := [(a_t, .inr (0, [.ref a_t_reader, .ref a_t_writer])), (a_t_reader_units, .inl (κ.2.1, 600, .inl t_reader_units)), (a_t_reader_numerator, .inr (2, [.ref a_t_reader_numerator_limbs, .int u4_t_reader_numerator_used])), (a_t_reader_numerator_limbs, .inl (κ.2.1, 48, .inl u4_t_reader_numerator_limbs)), (a_t_reader_denominator, .inr (2, [.ref a_t_reader_denominator_limbs, .int u4_t_reader_denominator_used])), (a_t_reader_denominator_limbs, .inl (κ.2.1, 48, .inl u4_t_reader_denominator_limbs))]) (wn := fun u => [(a_t, .inr (0, [.ref a_t_reader, .ref a_t_writer])), (a_t_reader, .inr (4, [.ref a_t_reader_units, .int u, .int u4_t_reader_at, .int u4_t_reader_end, .ref a_t_reader_numerator, .ref a_t_reader_denominator, .int u4_t_reader_counting, .int u4_t_reader_power])), (a_t_reader_units, .inl (κ.2.1, 600, .inl t_reader_units)), (a_t_reader_numerator, .inr (2, [.ref a_t_reader_numerator_limbs, .int u4_t_reader_numerator_used])), (a_t_reader_numerator_limbs, .inl (κ.2.1, 48, .inl u4_t_reader_numerator_limbs)), (a_t_reader_denominator, .inr (2, [.ref a_t_reader_denominator_limbs, .int u4_t_reader_denominator_used])), (a_t_reader_denominator_limbs, .inl (κ.2.1, 48, .inl u4_t_reader_denominator_limbs))]) (rest := []) (As := []) hF zn_D_52 (k_R_clear κ X hX l a_t_reader a_t_reader_units a_t_reader_numerator a_t_reader_denominator H.size t_reader_count u4_t_reader_at u4_t_reader_end u4_t_reader_counting u4_t_reader_power o_12 ho_12) hX hXs hK hA hP hD hS ⟨by decide, by decide⟩ ⟨rfl, rfl, rfl, rfl, rfl, by decide⟩ ⟨rfl, fun _ => rfl, fun _ => rfl⟩ (ci := 4) rfl rfl rfl rfl hl.1 rfl (Nat.le_of_ble_eq_true rfl) ⟨Nat.zero_le _, Nat.zero_le _⟩ d_D_read_12 (fun u H locs hw hP hD hS => ?_)
  obtain ⟨u12_t_reader_count, rfl⟩ : ∃ z, z = u := ⟨_, rfl⟩
  have hP : zP κ [(a_t, .inr (0, [.ref a_t_reader, .ref a_t_writer])), (a_t_reader, .inr (4, [.ref a_t_reader_units, .int u12_t_reader_count, .int u4_t_reader_at, .int u4_t_reader_end, .ref a_t_reader_numerator, .ref a_t_reader_denominator, .int u4_t_reader_counting, .int u4_t_reader_power])), (a_t_reader_units, .inl (κ.2.1, 600, .inl t_reader_units)), (a_t_reader_numerator, .inr (2, [.ref a_t_reader_numerator_limbs, .int u4_t_reader_numerator_used])), (a_t_reader_numerator_limbs, .inl (κ.2.1, 48, .inl u4_t_reader_numerator_limbs)), (a_t_reader_denominator, .inr (2, [.ref a_t_reader_denominator_limbs, .int u4_t_reader_denominator_used])), (a_t_reader_denominator_limbs, .inl (κ.2.1, 48, .inl u4_t_reader_denominator_limbs))] H := hP
  have hD : va_D A [(a_t, .inr (0, [.ref a_t_reader, .ref a_t_writer])), (a_t_reader, .inr (4, [.ref a_t_reader_units, .int u12_t_reader_count, .int u4_t_reader_at, .int u4_t_reader_end, .ref a_t_reader_numerator, .ref a_t_reader_denominator, .int u4_t_reader_counting, .int u4_t_reader_power])), (a_t_reader_units, .inl (κ.2.1, 600, .inl t_reader_units)), (a_t_reader_numerator, .inr (2, [.ref a_t_reader_numerator_limbs, .int u4_t_reader_numerator_used])), (a_t_reader_numerator_limbs, .inl (κ.2.1, 48, .inl u4_t_reader_numerator_limbs)), (a_t_reader_denominator, .inr (2, [.ref a_t_reader_denominator_limbs, .int u4_t_reader_denominator_used])), (a_t_reader_denominator_limbs, .inl (κ.2.1, 48, .inl u4_t_reader_denominator_limbs))] := hD
  subst hw
  refine lv_lload_n hx hb d_D_read_15 rfl (lv_at hl 0 rfl) ?_
  exact hret (r_4) ((u12_t_reader_count, u4_t_reader_at, u4_t_reader_end, u4_t_reader_counting, u4_t_reader_power, u4_t_reader_numerator_used, u4_t_reader_numerator_limbs, u4_t_reader_denominator_used, u4_t_reader_denominator_limbs)) H locs ls _ d_D_read_16 hP hD hS (Option.some.inj hf)
theorem d_D_reckon_0 : decode c_D_reckon 0 = .ok (.iload 5, 2) := by decide +kernel
theorem d_D_reckon_2 : decode c_D_reckon 2 = .ok (.tableswitch 64 0 4 #[34, 40, 46, 52, 58], 34) := by decide +kernel
theorem d_D_reckon_36 : decode c_D_reckon 36 = .ok (.lload_n 1, 1) := by decide +kernel
theorem d_D_reckon_37 : decode c_D_reckon 37 = .ok (.lload_n 3, 1) := by decide +kernel
theorem d_D_reckon_38 : decode c_D_reckon 38 = .ok (.invokestatic 55, 3) := by decide +kernel
theorem d_D_reckon_41 : decode c_D_reckon 41 = .ok (.lreturn, 1) := by decide +kernel
theorem d_D_reckon_42 : decode c_D_reckon 42 = .ok (.lload_n 1, 1) := by decide +kernel
theorem d_D_reckon_43 : decode c_D_reckon 43 = .ok (.lload_n 3, 1) := by decide +kernel
theorem d_D_reckon_44 : decode c_D_reckon 44 = .ok (.invokestatic 61, 3) := by decide +kernel
theorem d_D_reckon_47 : decode c_D_reckon 47 = .ok (.lreturn, 1) := by decide +kernel
theorem d_D_reckon_48 : decode c_D_reckon 48 = .ok (.lload_n 1, 1) := by decide +kernel
theorem d_D_reckon_49 : decode c_D_reckon 49 = .ok (.lload_n 3, 1) := by decide +kernel
theorem d_D_reckon_50 : decode c_D_reckon 50 = .ok (.invokestatic 64, 3) := by decide +kernel
theorem d_D_reckon_53 : decode c_D_reckon 53 = .ok (.lreturn, 1) := by decide +kernel
theorem d_D_reckon_54 : decode c_D_reckon 54 = .ok (.lload_n 1, 1) := by decide +kernel
theorem d_D_reckon_55 : decode c_D_reckon 55 = .ok (.lload_n 3, 1) := by decide +kernel
theorem d_D_reckon_56 : decode c_D_reckon 56 = .ok (.invokestatic 67, 3) := by decide +kernel
theorem d_D_reckon_59 : decode c_D_reckon 59 = .ok (.lreturn, 1) := by decide +kernel
theorem d_D_reckon_60 : decode c_D_reckon 60 = .ok (.lload_n 1, 1) := by decide +kernel
theorem d_D_reckon_61 : decode c_D_reckon 61 = .ok (.lload_n 3, 1) := by decide +kernel
theorem d_D_reckon_62 : decode c_D_reckon 62 = .ok (.invokestatic 70, 3) := by decide +kernel
theorem d_D_reckon_65 : decode c_D_reckon 65 = .ok (.lreturn, 1) := by decide +kernel
theorem d_D_reckon_66 : decode c_D_reckon 66 = .ok (.new 23, 3) := by decide +kernel
theorem d_D_reckon_69 : decode c_D_reckon 69 = .ok (.dup, 1) := by decide +kernel
theorem d_D_reckon_70 : decode c_D_reckon 70 = .ok (.ldc 73, 2) := by decide +kernel
theorem d_D_reckon_72 : decode c_D_reckon 72 = .ok (.invokespecial 27, 3) := by decide +kernel
theorem d_D_reckon_75 : decode c_D_reckon 75 = .ok (.athrow, 1) := by decide +kernel
theorem zn_D_55 : zNS R_D 55 y_A_sum c_A_sum 4 (some .long) 2 := ⟨zco_A_sum, zin_A, zml_D_55, zst_A_sum, by decide +kernel⟩
theorem zn_D_61 : zNS R_D 61 y_A_difference c_A_difference 4 (some .long) 2 := ⟨zco_A_difference, zin_A, zml_D_61, zst_A_difference, by decide +kernel⟩
theorem zn_D_64 : zNS R_D 64 y_A_product c_A_product 7 (some .long) 2 := ⟨zco_A_product, zin_A, zml_D_64, zst_A_product, by decide +kernel⟩
theorem zn_D_67 : zNS R_D 67 y_A_quotient c_A_quotient 8 (some .long) 2 := ⟨zco_A_quotient, zin_A, zml_D_67, zst_A_quotient, by decide +kernel⟩
theorem zn_D_70 : zNS R_D 70 y_A_remainder c_A_remainder 9 (some .long) 2 := ⟨zco_A_remainder, zin_A, zml_D_70, zst_A_remainder, by decide +kernel⟩
set_option maxHeartbeats 4000000 in
set_option maxRecDepth 100000 in
theorem k_D_reckon (κ : zC) (X : zXT) (hX : zX κ X) (l : Launch) (a_t a_t_reader a_t_writer : Nat) (sz : Nat) (x1 : Int64) (x3 : Int64) (x5 : Int32) (out : Int64) (hf : f_D_reckon x1 x3 x5 = some out) : zMet κ X l y_D_reckon c_D_reckon 6 (some .long) 6 146 [.ref a_t, .long x1, .long x3, .int x5] sz [(a_t, .inr (0, [.ref a_t_reader, .ref a_t_writer]))] (zQl κ (fun (r : Int64) (_ : Unit) => r = out) (fun u => [(a_t, .inr (0, [.ref a_t_reader, .ref a_t_writer]))])) := by
  refine zMet.ofL (by decide +kernel) (Nat.le_of_ble_eq_true rfl) ?_
  intro p e s m args below meth c ls A Q hF hK hP hD hA hXs hS hl hret
  obtain ⟨hx, hb, hml, hown, hts⟩ := id hF
  obtain ⟨H, hH⟩ : ∃ H, H = s.heap := ⟨_, rfl⟩
  obtain ⟨locs, hlo⟩ : ∃ z : List Loc, z = [] := ⟨_, rfl⟩
  replace hP : zP κ [(a_t, .inr (0, [.ref a_t_reader, .ref a_t_writer]))] H := by rw [hH]; exact hP
  replace hS : va_S A s.heap H locs := by rw [hH, hlo]; exact hS
  suffices hgo : W p l e (zR 6 146) s m args below meth c H locs 0 0 Q (F0 m 0 ls []) by rw [hH, hlo] at hgo; exact hgo
  clear hH hlo
  replace hl : lv_has ls 6 [(0, .ref a_t), (1, .long x1), (3, .long x3), (5, .int x5)] := hl
  unfold f_D_reckon at hf
  refine lv_iload hx hb d_D_reckon_0 (lv_at hl 3 rfl) ?_
  by_cases c_2_0 : x5 = 0
  · have hf := (zbr hf).1 c_2_0
    rw [c_2_0]
    refine lv_tableIn (tgt := 36) hx hb d_D_reckon_2 (by decide) (by decide) (off := 34) (by decide) (by decide) ?_
    refine lv_lload_n hx hb d_D_reckon_36 rfl (lv_at hl 1 rfl) ?_
    refine lv_lload_n hx hb d_D_reckon_37 rfl (lv_at hl 2 rfl) ?_
    obtain ⟨o_38, ho_38, hf⟩ := zbd hf
    refine zSl (isC := []) (isR := [0]) (isN := [0]) (wc := []) (wr := [(a_t, .inr (0, [.ref a_t_reader, .ref a_t_writer]))]) (wn := fun u => [(a_t, .inr (0, [.ref a_t_reader, .ref a_t_writer]))]) (rest := []) (As := [.long x1, .long x3]) hF zn_D_55 (k_A_sum κ X hX l H.size x1 x3 o_38 ho_38) hX hXs hK hA hP hD hS ⟨by decide, by decide⟩ ⟨rfl, rfl, rfl, rfl, rfl, by decide⟩ ⟨rfl, fun _ => rfl, fun _ => rfl⟩ rfl hl.1 rfl (Nat.le_of_ble_eq_true rfl) ⟨Nat.zero_le _, Nat.zero_le _⟩ d_D_reckon_38 (fun r_38 u H locs hw hP hD hS => ?_)
    subst hw
    exact hret (r_38) () H locs ls _ d_D_reckon_41 hP hD hS (Option.some.inj hf)
  have hf := (zbr hf).2 c_2_0
  by_cases c_2_1 : x5 = 1
  · have hf := (zbr hf).1 c_2_1
    rw [c_2_1]
    refine lv_tableIn (tgt := 42) hx hb d_D_reckon_2 (by decide) (by decide) (off := 40) (by decide) (by decide) ?_
    refine lv_lload_n hx hb d_D_reckon_42 rfl (lv_at hl 1 rfl) ?_
    refine lv_lload_n hx hb d_D_reckon_43 rfl (lv_at hl 2 rfl) ?_
    obtain ⟨o_44, ho_44, hf⟩ := zbd hf
    refine zSl (isC := []) (isR := [0]) (isN := [0]) (wc := []) (wr := [(a_t, .inr (0, [.ref a_t_reader, .ref a_t_writer]))]) (wn := fun u => [(a_t, .inr (0, [.ref a_t_reader, .ref a_t_writer]))]) (rest := []) (As := [.long x1, .long x3]) hF zn_D_61 (k_A_difference κ X hX l H.size x1 x3 o_44 ho_44) hX hXs hK hA hP hD hS ⟨by decide, by decide⟩ ⟨rfl, rfl, rfl, rfl, rfl, by decide⟩ ⟨rfl, fun _ => rfl, fun _ => rfl⟩ rfl hl.1 rfl (Nat.le_of_ble_eq_true rfl) ⟨Nat.zero_le _, Nat.zero_le _⟩ d_D_reckon_44 (fun r_44 u H locs hw hP hD hS => ?_)
    subst hw
    exact hret (r_44) () H locs ls _ d_D_reckon_47 hP hD hS (Option.some.inj hf)
  have hf := (zbr hf).2 c_2_1
  by_cases c_2_2 : x5 = 2
  · have hf := (zbr hf).1 c_2_2
    rw [c_2_2]
    refine lv_tableIn (tgt := 48) hx hb d_D_reckon_2 (by decide) (by decide) (off := 46) (by decide) (by decide) ?_
    refine lv_lload_n hx hb d_D_reckon_48 rfl (lv_at hl 1 rfl) ?_
    refine lv_lload_n hx hb d_D_reckon_49 rfl (lv_at hl 2 rfl) ?_
    obtain ⟨o_50, ho_50, hf⟩ := zbd hf
    refine zSl (isC := []) (isR := [0]) (isN := [0]) (wc := []) (wr := [(a_t, .inr (0, [.ref a_t_reader, .ref a_t_writer]))]) (wn := fun u => [(a_t, .inr (0, [.ref a_t_reader, .ref a_t_writer]))]) (rest := []) (As := [.long x1, .long x3]) hF zn_D_64 (k_A_product κ X hX l H.size x1 x3 o_50 ho_50) hX hXs hK hA hP hD hS ⟨by decide, by decide⟩ ⟨rfl, rfl, rfl, rfl, rfl, by decide⟩ ⟨rfl, fun _ => rfl, fun _ => rfl⟩ rfl hl.1 rfl (Nat.le_of_ble_eq_true rfl) ⟨Nat.zero_le _, Nat.zero_le _⟩ d_D_reckon_50 (fun r_50 u H locs hw hP hD hS => ?_)
    subst hw
    exact hret (r_50) () H locs ls _ d_D_reckon_53 hP hD hS (Option.some.inj hf)
  have hf := (zbr hf).2 c_2_2
  by_cases c_2_3 : x5 = 3
  · have hf := (zbr hf).1 c_2_3
    rw [c_2_3]
    refine lv_tableIn (tgt := 54) hx hb d_D_reckon_2 (by decide) (by decide) (off := 52) (by decide) (by decide) ?_
    refine lv_lload_n hx hb d_D_reckon_54 rfl (lv_at hl 1 rfl) ?_
    refine lv_lload_n hx hb d_D_reckon_55 rfl (lv_at hl 2 rfl) ?_
    obtain ⟨o_56, ho_56, hf⟩ := zbd hf
    refine zSl (isC := []) (isR := [0]) (isN := [0]) (wc := []) (wr := [(a_t, .inr (0, [.ref a_t_reader, .ref a_t_writer]))]) (wn := fun u => [(a_t, .inr (0, [.ref a_t_reader, .ref a_t_writer]))]) (rest := []) (As := [.long x1, .long x3]) hF zn_D_67 (k_A_quotient κ X hX l H.size x1 x3 o_56 ho_56) hX hXs hK hA hP hD hS ⟨by decide, by decide⟩ ⟨rfl, rfl, rfl, rfl, rfl, by decide⟩ ⟨rfl, fun _ => rfl, fun _ => rfl⟩ rfl hl.1 rfl (Nat.le_of_ble_eq_true rfl) ⟨Nat.zero_le _, Nat.zero_le _⟩ d_D_reckon_56 (fun r_56 u H locs hw hP hD hS => ?_)
    subst hw
    exact hret (r_56) () H locs ls _ d_D_reckon_59 hP hD hS (Option.some.inj hf)
  have hf := (zbr hf).2 c_2_3
  by_cases c_2_4 : x5 = 4
  · have hf := (zbr hf).1 c_2_4
    rw [c_2_4]
    refine lv_tableIn (tgt := 60) hx hb d_D_reckon_2 (by decide) (by decide) (off := 58) (by decide) (by decide) ?_
    refine lv_lload_n hx hb d_D_reckon_60 rfl (lv_at hl 1 rfl) ?_
    refine lv_lload_n hx hb d_D_reckon_61 rfl (lv_at hl 2 rfl) ?_
    obtain ⟨o_62, ho_62, hf⟩ := zbd hf
    refine zSl (isC := []) (isR := [0]) (isN := [0]) (wc := []) (wr := [(a_t, .inr (0, [.ref a_t_reader, .ref a_t_writer]))]) (wn := fun u => [(a_t, .inr (0, [.ref a_t_reader, .ref a_t_writer]))]) (rest := []) (As := [.long x1, .long x3]) hF zn_D_70 (k_A_remainder κ X hX l H.size x1 x3 o_62 ho_62) hX hXs hK hA hP hD hS ⟨by decide, by decide⟩ ⟨rfl, rfl, rfl, rfl, rfl, by decide⟩ ⟨rfl, fun _ => rfl, fun _ => rfl⟩ rfl hl.1 rfl (Nat.le_of_ble_eq_true rfl) ⟨Nat.zero_le _, Nat.zero_le _⟩ d_D_reckon_62 (fun r_62 u H locs hw hP hD hS => ?_)
    subst hw
    exact hret (r_62) () H locs ls _ d_D_reckon_65 hP hD hS (Option.some.inj hf)
  have hf := (zbr hf).2 c_2_4
  refine lv_tableOut (tgt := 66) hx hb d_D_reckon_2 (by have h_0 := zti c_2_0 (n := 0) (by decide); have h_1 := zti c_2_1 (n := 1) (by decide); have h_2 := zti c_2_2 (n := 2) (by decide); have h_3 := zti c_2_3 (n := 3) (by decide); have h_4 := zti c_2_4 (n := 4) (by decide); omega) (by decide) ?_
  cases hf
theorem d_D_turn_0 : decode c_D_turn 0 = .ok (.iload_n 3, 1) := by decide +kernel
theorem d_D_turn_1 : decode c_D_turn 1 = .ok (.ifCond .lt 9, 3) := by decide +kernel
theorem d_D_turn_4 : decode c_D_turn 4 = .ok (.iload_n 3, 1) := by decide +kernel
theorem d_D_turn_5 : decode c_D_turn 5 = .ok (.bipush 6, 2) := by decide +kernel
theorem d_D_turn_7 : decode c_D_turn 7 = .ok (.if_icmp .le 13, 3) := by decide +kernel
theorem d_D_turn_10 : decode c_D_turn 10 = .ok (.new 23, 3) := by decide +kernel
theorem d_D_turn_13 : decode c_D_turn 13 = .ok (.dup, 1) := by decide +kernel
theorem d_D_turn_14 : decode c_D_turn 14 = .ok (.ldc 75, 2) := by decide +kernel
theorem d_D_turn_16 : decode c_D_turn 16 = .ok (.invokespecial 27, 3) := by decide +kernel
theorem d_D_turn_19 : decode c_D_turn 19 = .ok (.athrow, 1) := by decide +kernel
theorem d_D_turn_20 : decode c_D_turn 20 = .ok (.lload_n 1, 1) := by decide +kernel
theorem d_D_turn_21 : decode c_D_turn 21 = .ok (.invokestatic 77, 3) := by decide +kernel
theorem d_D_turn_24 : decode c_D_turn 24 = .ok (.ifCond .eq 7, 3) := by decide +kernel
theorem d_D_turn_27 : decode c_D_turn 27 = .ok (.ldc2_w 83, 3) := by decide +kernel
theorem d_D_turn_30 : decode c_D_turn 30 = .ok (.lreturn, 1) := by decide +kernel
theorem d_D_turn_31 : decode c_D_turn 31 = .ok (.iload_n 3, 1) := by decide +kernel
theorem d_D_turn_32 : decode c_D_turn 32 = .ok (.ifCond .ne 8, 3) := by decide +kernel
theorem d_D_turn_35 : decode c_D_turn 35 = .ok (.lload_n 1, 1) := by decide +kernel
theorem d_D_turn_36 : decode c_D_turn 36 = .ok (.invokestatic 85, 3) := by decide +kernel
theorem d_D_turn_39 : decode c_D_turn 39 = .ok (.lreturn, 1) := by decide +kernel
theorem d_D_turn_40 : decode c_D_turn 40 = .ok (.iload_n 3, 1) := by decide +kernel
theorem d_D_turn_41 : decode c_D_turn 41 = .ok (.iconst 5, 1) := by decide +kernel
theorem d_D_turn_42 : decode c_D_turn 42 = .ok (.if_icmp .ne 9, 3) := by decide +kernel
theorem d_D_turn_45 : decode c_D_turn 45 = .ok (.lload_n 1, 1) := by decide +kernel
theorem d_D_turn_46 : decode c_D_turn 46 = .ok (.ldc2_w 89, 3) := by decide +kernel
theorem d_D_turn_49 : decode c_D_turn 49 = .ok (.lxor, 1) := by decide +kernel
theorem d_D_turn_50 : decode c_D_turn 50 = .ok (.lreturn, 1) := by decide +kernel
theorem d_D_turn_51 : decode c_D_turn 51 = .ok (.iload_n 3, 1) := by decide +kernel
theorem d_D_turn_52 : decode c_D_turn 52 = .ok (.bipush 6, 2) := by decide +kernel
theorem d_D_turn_54 : decode c_D_turn 54 = .ok (.if_icmp .ne 8, 3) := by decide +kernel
theorem d_D_turn_57 : decode c_D_turn 57 = .ok (.lload_n 1, 1) := by decide +kernel
theorem d_D_turn_58 : decode c_D_turn 58 = .ok (.invokestatic 91, 3) := by decide +kernel
theorem d_D_turn_61 : decode c_D_turn 61 = .ok (.lreturn, 1) := by decide +kernel
theorem d_D_turn_62 : decode c_D_turn 62 = .ok (.lload_n 1, 1) := by decide +kernel
theorem d_D_turn_63 : decode c_D_turn 63 = .ok (.iload_n 3, 1) := by decide +kernel
theorem d_D_turn_64 : decode c_D_turn 64 = .ok (.invokestatic 94, 3) := by decide +kernel
theorem d_D_turn_67 : decode c_D_turn 67 = .ok (.lreturn, 1) := by decide +kernel
theorem zn_D_77 : zNS R_D 77 y_B_isNan c_B_isNan 2 (some .boolean) 1 := ⟨zco_B_isNan, zin_B, zml_D_77, zst_B_isNan, by decide +kernel⟩
theorem zn_D_85 : zNS R_D 85 y_A_root c_A_root 2 (some .long) 1 := ⟨zco_A_root, zin_A, zml_D_85, zst_A_root, by decide +kernel⟩
theorem zn_D_91 : zNS R_D 91 y_B_magnitude c_B_magnitude 2 (some .long) 1 := ⟨zco_B_magnitude, zin_B, zml_D_91, zst_B_magnitude, by decide +kernel⟩
theorem zn_D_94 : zNS R_D 94 y_H_wholeNear c_H_wholeNear 11 (some .long) 2 := ⟨zco_H_wholeNear, zin_H, zml_D_94, zst_H_wholeNear, by decide +kernel⟩
set_option maxHeartbeats 4000000 in
set_option maxRecDepth 100000 in
theorem k_D_turn (κ : zC) (X : zXT) (hX : zX κ X) (l : Launch) (a_t a_t_reader a_t_writer : Nat) (sz : Nat) (x1 : Int64) (x3 : Int32) (out : Int64) (hf : f_D_turn x1 x3 = some out) : zMet κ X l y_D_turn c_D_turn 4 (some .long) 5 126 [.ref a_t, .long x1, .int x3] sz [(a_t, .inr (0, [.ref a_t_reader, .ref a_t_writer]))] (zQl κ (fun (r : Int64) (_ : Unit) => r = out) (fun u => [(a_t, .inr (0, [.ref a_t_reader, .ref a_t_writer]))])) := by
  refine zMet.ofL (by decide +kernel) (Nat.le_of_ble_eq_true rfl) ?_
  intro p e s m args below meth c ls A Q hF hK hP hD hA hXs hS hl hret
  obtain ⟨hx, hb, hml, hown, hts⟩ := id hF
  obtain ⟨H, hH⟩ : ∃ H, H = s.heap := ⟨_, rfl⟩
  obtain ⟨locs, hlo⟩ : ∃ z : List Loc, z = [] := ⟨_, rfl⟩
  replace hP : zP κ [(a_t, .inr (0, [.ref a_t_reader, .ref a_t_writer]))] H := by rw [hH]; exact hP
  replace hS : va_S A s.heap H locs := by rw [hH, hlo]; exact hS
  suffices hgo : W p l e (zR 5 126) s m args below meth c H locs 0 0 Q (F0 m 0 ls []) by rw [hH, hlo] at hgo; exact hgo
  clear hH hlo
  replace hl : lv_has ls 4 [(0, .ref a_t), (1, .long x1), (3, .int x3)] := hl
  unfold f_D_turn at hf
  refine lv_iload_n hx hb d_D_turn_0 rfl (lv_at hl 2 rfl) ?_
  refine lv_if_lt (tgt := 10) hx hb d_D_turn_1 (by decide) (fun c_1 => ?_) (fun c_1 => ?_)
  · have hf := (zbr hf).1 c_1
    cases hf
  · have hf := (zbr hf).2 c_1
    refine lv_iload_n hx hb d_D_turn_4 rfl (lv_at hl 2 rfl) ?_
    refine lv_bipush (v := 6) hx hb d_D_turn_5 (by decide) ?_
    refine lv_icmp_le (tgt := 20) hx hb d_D_turn_7 (by decide) (fun c_7 => ?_) (fun c_7 => ?_)
    · have hf := (zbr hf).1 c_7
      refine lv_lload_n hx hb d_D_turn_20 rfl (lv_at hl 1 rfl) ?_
      obtain ⟨o_21, ho_21, hf⟩ := zbd hf
      refine zSi (isC := []) (isR := [0]) (isN := [0]) (wc := []) (wr := [(a_t, .inr (0, [.ref a_t_reader, .ref a_t_writer]))]) (wn := fun u => [(a_t, .inr (0, [.ref a_t_reader, .ref a_t_writer]))]) (rest := []) (As := [.long x1]) hF zn_D_77 (k_B_isNan κ X hX l H.size x1 o_21 ho_21) hX hXs hK hA hP hD hS ⟨by decide, by decide⟩ ⟨rfl, rfl, rfl, rfl, rfl, by decide⟩ ⟨rfl, fun _ => rfl, fun _ => rfl⟩ rfl hl.1 rfl (Nat.le_of_ble_eq_true rfl) ⟨Nat.zero_le _, Nat.zero_le _⟩ d_D_turn_21 (fun r_21 u H locs hw hP hD hS => ?_)
      subst hw
      refine lv_if_eq (tgt := 31) hx hb d_D_turn_24 (by decide) (fun c_24 => ?_) (fun c_24 => ?_)
      · have hf := (zbr hf).1 c_24
        refine lv_iload_n hx hb d_D_turn_31 rfl (lv_at hl 2 rfl) ?_
        refine lv_if_ne (tgt := 40) hx hb d_D_turn_32 (by decide) (fun c_32 => ?_) (fun c_32 => ?_)
        · have hf := (zbr hf).2 c_32
          refine lv_iload_n hx hb d_D_turn_40 rfl (lv_at hl 2 rfl) ?_
          refine lv_iconst (v := 5) hx hb d_D_turn_41 (by decide) ?_
          refine lv_icmp_ne (tgt := 51) hx hb d_D_turn_42 (by decide) (fun c_42 => ?_) (fun c_42 => ?_)
          · have hf := (zbr hf).2 c_42
            refine lv_iload_n hx hb d_D_turn_51 rfl (lv_at hl 2 rfl) ?_
            refine lv_bipush (v := 6) hx hb d_D_turn_52 (by decide) ?_
            refine lv_icmp_ne (tgt := 62) hx hb d_D_turn_54 (by decide) (fun c_54 => ?_) (fun c_54 => ?_)
            · have hf := (zbr hf).2 c_54
              refine lv_lload_n hx hb d_D_turn_62 rfl (lv_at hl 1 rfl) ?_
              refine lv_iload_n hx hb d_D_turn_63 rfl (lv_at hl 2 rfl) ?_
              obtain ⟨o_64, ho_64, hf⟩ := zbd hf
              refine zSl (isC := []) (isR := [0]) (isN := [0]) (wc := []) (wr := [(a_t, .inr (0, [.ref a_t_reader, .ref a_t_writer]))]) (wn := fun u => [(a_t, .inr (0, [.ref a_t_reader, .ref a_t_writer]))]) (rest := []) (As := [.long x1, .int x3]) hF zn_D_94 (k_H_wholeNear κ X hX l H.size x1 x3 o_64 ho_64) hX hXs hK hA hP hD hS ⟨by decide, by decide⟩ ⟨rfl, rfl, rfl, rfl, rfl, by decide⟩ ⟨rfl, fun _ => rfl, fun _ => rfl⟩ rfl hl.1 rfl (Nat.le_of_ble_eq_true rfl) ⟨Nat.zero_le _, Nat.zero_le _⟩ d_D_turn_64 (fun r_64 u H locs hw hP hD hS => ?_)
              subst hw
              exact hret (r_64) () H locs ls _ d_D_turn_67 hP hD hS (Option.some.inj hf)
            · have hf := (zbr hf).1 c_54
              refine lv_lload_n hx hb d_D_turn_57 rfl (lv_at hl 1 rfl) ?_
              obtain ⟨o_58, ho_58, hf⟩ := zbd hf
              refine zSl (isC := []) (isR := [0]) (isN := [0]) (wc := []) (wr := [(a_t, .inr (0, [.ref a_t_reader, .ref a_t_writer]))]) (wn := fun u => [(a_t, .inr (0, [.ref a_t_reader, .ref a_t_writer]))]) (rest := []) (As := [.long x1]) hF zn_D_91 (k_B_magnitude κ X hX l H.size x1 o_58 ho_58) hX hXs hK hA hP hD hS ⟨by decide, by decide⟩ ⟨rfl, rfl, rfl, rfl, rfl, by decide⟩ ⟨rfl, fun _ => rfl, fun _ => rfl⟩ rfl hl.1 rfl (Nat.le_of_ble_eq_true rfl) ⟨Nat.zero_le _, Nat.zero_le _⟩ d_D_turn_58 (fun r_58 u H locs hw hP hD hS => ?_)
              subst hw
              exact hret (r_58) () H locs ls _ d_D_turn_61 hP hD hS (Option.some.inj hf)
          · have hf := (zbr hf).1 c_42
            refine lv_lload_n hx hb d_D_turn_45 rfl (lv_at hl 1 rfl) ?_
            refine lv_ldc2 (v := (-9223372036854775808)) hx hb hown (hts _ zkl_D_89) d_D_turn_46 ?_
            refine lv_lxor hx hb d_D_turn_49 ?_
            exact hret ((x1 ^^^ (-9223372036854775808))) () H locs ls _ d_D_turn_50 hP hD hS (Option.some.inj hf)
        · have hf := (zbr hf).1 c_32
          refine lv_lload_n hx hb d_D_turn_35 rfl (lv_at hl 1 rfl) ?_
          obtain ⟨o_36, ho_36, hf⟩ := zbd hf
          refine zSl (isC := []) (isR := [0]) (isN := [0]) (wc := []) (wr := [(a_t, .inr (0, [.ref a_t_reader, .ref a_t_writer]))]) (wn := fun u => [(a_t, .inr (0, [.ref a_t_reader, .ref a_t_writer]))]) (rest := []) (As := [.long x1]) hF zn_D_85 (k_A_root κ X hX l H.size x1 o_36 ho_36) hX hXs hK hA hP hD hS ⟨by decide, by decide⟩ ⟨rfl, rfl, rfl, rfl, rfl, by decide⟩ ⟨rfl, fun _ => rfl, fun _ => rfl⟩ rfl hl.1 rfl (Nat.le_of_ble_eq_true rfl) ⟨Nat.zero_le _, Nat.zero_le _⟩ d_D_turn_36 (fun r_36 u H locs hw hP hD hS => ?_)
          subst hw
          exact hret (r_36) () H locs ls _ d_D_turn_39 hP hD hS (Option.some.inj hf)
      · have hf := (zbr hf).2 c_24
        refine lv_ldc2 (v := 9221120237041090560) hx hb hown (hts _ zkl_D_83) d_D_turn_27 ?_
        exact hret ((9221120237041090560 : Int64)) () H locs ls _ d_D_turn_30 hP hD hS (Option.some.inj hf)
    · have hf := (zbr hf).2 c_7
      cases hf
theorem d_D_compare_0 : decode c_D_compare 0 = .ok (.lload_n 1, 1) := by decide +kernel
theorem d_D_compare_1 : decode c_D_compare 1 = .ok (.invokestatic 77, 3) := by decide +kernel
theorem d_D_compare_4 : decode c_D_compare 4 = .ok (.ifCond .ne 10, 3) := by decide +kernel
theorem d_D_compare_7 : decode c_D_compare 7 = .ok (.lload_n 3, 1) := by decide +kernel
theorem d_D_compare_8 : decode c_D_compare 8 = .ok (.invokestatic 77, 3) := by decide +kernel
theorem d_D_compare_11 : decode c_D_compare 11 = .ok (.ifCond .eq 5, 3) := by decide +kernel
theorem d_D_compare_14 : decode c_D_compare 14 = .ok (.iconst 2, 1) := by decide +kernel
theorem d_D_compare_15 : decode c_D_compare 15 = .ok (.ireturn, 1) := by decide +kernel
theorem d_D_compare_16 : decode c_D_compare 16 = .ok (.lload_n 1, 1) := by decide +kernel
theorem d_D_compare_17 : decode c_D_compare 17 = .ok (.invokestatic 100, 3) := by decide +kernel
theorem d_D_compare_20 : decode c_D_compare 20 = .ok (.lstore 5, 2) := by decide +kernel
theorem d_D_compare_22 : decode c_D_compare 22 = .ok (.lload_n 3, 1) := by decide +kernel
theorem d_D_compare_23 : decode c_D_compare 23 = .ok (.invokestatic 100, 3) := by decide +kernel
theorem d_D_compare_26 : decode c_D_compare 26 = .ok (.lstore 7, 2) := by decide +kernel
theorem d_D_compare_28 : decode c_D_compare 28 = .ok (.lload 5, 2) := by decide +kernel
theorem d_D_compare_30 : decode c_D_compare 30 = .ok (.lload 7, 2) := by decide +kernel
theorem d_D_compare_32 : decode c_D_compare 32 = .ok (.lcmp, 1) := by decide +kernel
theorem d_D_compare_33 : decode c_D_compare 33 = .ok (.ifCond .ne 5, 3) := by decide +kernel
theorem d_D_compare_36 : decode c_D_compare 36 = .ok (.iconst 0, 1) := by decide +kernel
theorem d_D_compare_37 : decode c_D_compare 37 = .ok (.ireturn, 1) := by decide +kernel
theorem d_D_compare_38 : decode c_D_compare 38 = .ok (.lload 5, 2) := by decide +kernel
theorem d_D_compare_40 : decode c_D_compare 40 = .ok (.lload 7, 2) := by decide +kernel
theorem d_D_compare_42 : decode c_D_compare 42 = .ok (.lcmp, 1) := by decide +kernel
theorem d_D_compare_43 : decode c_D_compare 43 = .ok (.ifCond .ge 7, 3) := by decide +kernel
theorem d_D_compare_46 : decode c_D_compare 46 = .ok (.iconst (-1), 1) := by decide +kernel
theorem d_D_compare_47 : decode c_D_compare 47 = .ok (.goto 4, 3) := by decide +kernel
theorem d_D_compare_50 : decode c_D_compare 50 = .ok (.iconst 1, 1) := by decide +kernel
theorem d_D_compare_51 : decode c_D_compare 51 = .ok (.ireturn, 1) := by decide +kernel
theorem zn_D_100 : zNS R_D 100 y_B_place c_B_place 2 (some .long) 1 := ⟨zco_B_place, zin_B, zml_D_100, zst_B_place, by decide +kernel⟩
set_option maxHeartbeats 4000000 in
set_option maxRecDepth 100000 in
theorem k_D_compare (κ : zC) (X : zXT) (hX : zX κ X) (l : Launch) (a_t a_t_reader a_t_writer : Nat) (sz : Nat) (x1 : Int64) (x3 : Int64) (out : Int32) (hf : f_D_compare x1 x3 = some out) : zMet κ X l y_D_compare c_D_compare 9 (some .int) 2 42 [.ref a_t, .long x1, .long x3] sz [(a_t, .inr (0, [.ref a_t_reader, .ref a_t_writer]))] (zQi κ (fun (r : Int32) (_ : Unit) => r = out) (fun u => [(a_t, .inr (0, [.ref a_t_reader, .ref a_t_writer]))])) := by
  refine zMet.ofI (by decide +kernel) (Nat.le_of_ble_eq_true rfl) ?_
  intro p e s m args below meth c ls A Q hF hK hP hD hA hXs hS hl hret
  obtain ⟨hx, hb, hml, hown, hts⟩ := id hF
  obtain ⟨H, hH⟩ : ∃ H, H = s.heap := ⟨_, rfl⟩
  obtain ⟨locs, hlo⟩ : ∃ z : List Loc, z = [] := ⟨_, rfl⟩
  replace hP : zP κ [(a_t, .inr (0, [.ref a_t_reader, .ref a_t_writer]))] H := by rw [hH]; exact hP
  replace hS : va_S A s.heap H locs := by rw [hH, hlo]; exact hS
  suffices hgo : W p l e (zR 2 42) s m args below meth c H locs 0 0 Q (F0 m 0 ls []) by rw [hH, hlo] at hgo; exact hgo
  clear hH hlo
  replace hl : lv_has ls 9 [(0, .ref a_t), (1, .long x1), (3, .long x3)] := hl
  unfold f_D_compare at hf
  refine lv_lload_n hx hb d_D_compare_0 rfl (lv_at hl 1 rfl) ?_
  obtain ⟨o_1, ho_1, hf⟩ := zbd hf
  refine zSi (isC := []) (isR := [0]) (isN := [0]) (wc := []) (wr := [(a_t, .inr (0, [.ref a_t_reader, .ref a_t_writer]))]) (wn := fun u => [(a_t, .inr (0, [.ref a_t_reader, .ref a_t_writer]))]) (rest := []) (As := [.long x1]) hF zn_D_77 (k_B_isNan κ X hX l H.size x1 o_1 ho_1) hX hXs hK hA hP hD hS ⟨by decide, by decide⟩ ⟨rfl, rfl, rfl, rfl, rfl, by decide⟩ ⟨rfl, fun _ => rfl, fun _ => rfl⟩ rfl hl.1 rfl (Nat.le_of_ble_eq_true rfl) ⟨Nat.zero_le _, Nat.zero_le _⟩ d_D_compare_1 (fun r_1 u H locs hw hP hD hS => ?_)
  subst hw
  refine lv_if_ne (tgt := 14) hx hb d_D_compare_4 (by decide) (fun c_4 => ?_) (fun c_4 => ?_)
  · have hf := (zbr hf).2 c_4
    refine lv_iconst (v := 2) hx hb d_D_compare_14 (by decide) ?_
    exact hret ((2 : Int32)) () H locs ls _ d_D_compare_15 hP hD hS (Option.some.inj hf)
  · have hf := (zbr hf).1 c_4
    refine lv_lload_n hx hb d_D_compare_7 rfl (lv_at hl 2 rfl) ?_
    obtain ⟨o_8, ho_8, hf⟩ := zbd hf
    refine zSi (isC := []) (isR := [0]) (isN := [0]) (wc := []) (wr := [(a_t, .inr (0, [.ref a_t_reader, .ref a_t_writer]))]) (wn := fun u => [(a_t, .inr (0, [.ref a_t_reader, .ref a_t_writer]))]) (rest := []) (As := [.long x3]) hF zn_D_77 (k_B_isNan κ X hX l H.size x3 o_8 ho_8) hX hXs hK hA hP hD hS ⟨by decide, by decide⟩ ⟨rfl, rfl, rfl, rfl, rfl, by decide⟩ ⟨rfl, fun _ => rfl, fun _ => rfl⟩ rfl hl.1 rfl (Nat.le_of_ble_eq_true rfl) ⟨Nat.zero_le _, Nat.zero_le _⟩ d_D_compare_8 (fun r_8 u H locs hw hP hD hS => ?_)
    subst hw
    refine lv_if_eq (tgt := 16) hx hb d_D_compare_11 (by decide) (fun c_11 => ?_) (fun c_11 => ?_)
    · have hf := (zbr hf).1 c_11
      refine lv_lload_n hx hb d_D_compare_16 rfl (lv_at hl 1 rfl) ?_
      obtain ⟨o_17, ho_17, hf⟩ := zbd hf
      refine zSl (isC := []) (isR := [0]) (isN := [0]) (wc := []) (wr := [(a_t, .inr (0, [.ref a_t_reader, .ref a_t_writer]))]) (wn := fun u => [(a_t, .inr (0, [.ref a_t_reader, .ref a_t_writer]))]) (rest := []) (As := [.long x1]) hF zn_D_100 (k_B_place κ X hX l H.size x1 o_17 ho_17) hX hXs hK hA hP hD hS ⟨by decide, by decide⟩ ⟨rfl, rfl, rfl, rfl, rfl, by decide⟩ ⟨rfl, fun _ => rfl, fun _ => rfl⟩ rfl hl.1 rfl (Nat.le_of_ble_eq_true rfl) ⟨Nat.zero_le _, Nat.zero_le _⟩ d_D_compare_17 (fun r_17 u H locs hw hP hD hS => ?_)
      subst hw
      refine lv_lstore (lv' := [(5, .long r_17), (0, .ref a_t), (1, .long x1), (3, .long x3)]) hx hb d_D_compare_20 hl (by decide) rfl (fun ls hl => ?_)
      refine lv_lload_n hx hb d_D_compare_22 rfl (lv_at hl 3 rfl) ?_
      obtain ⟨o_23, ho_23, hf⟩ := zbd hf
      refine zSl (isC := []) (isR := [0]) (isN := [0]) (wc := []) (wr := [(a_t, .inr (0, [.ref a_t_reader, .ref a_t_writer]))]) (wn := fun u => [(a_t, .inr (0, [.ref a_t_reader, .ref a_t_writer]))]) (rest := []) (As := [.long x3]) hF zn_D_100 (k_B_place κ X hX l H.size x3 o_23 ho_23) hX hXs hK hA hP hD hS ⟨by decide, by decide⟩ ⟨rfl, rfl, rfl, rfl, rfl, by decide⟩ ⟨rfl, fun _ => rfl, fun _ => rfl⟩ rfl hl.1 rfl (Nat.le_of_ble_eq_true rfl) ⟨Nat.zero_le _, Nat.zero_le _⟩ d_D_compare_23 (fun r_23 u H locs hw hP hD hS => ?_)
      subst hw
      refine lv_lstore (lv' := [(7, .long r_23), (5, .long r_17), (0, .ref a_t), (1, .long x1), (3, .long x3)]) hx hb d_D_compare_26 hl (by decide) rfl (fun ls hl => ?_)
      refine lv_lload hx hb d_D_compare_28 (lv_at hl 1 rfl) ?_
      refine lv_lload hx hb d_D_compare_30 (lv_at hl 0 rfl) ?_
      refine W.lcmp hx hb d_D_compare_32 ?_
      refine lv_if_ne (tgt := 38) hx hb d_D_compare_33 (by decide) (fun c_33 => ?_) (fun c_33 => ?_)
      · have hf := (zbr hf).2 (zc_neq c_33)
        refine lv_lload hx hb d_D_compare_38 (lv_at hl 1 rfl) ?_
        refine lv_lload hx hb d_D_compare_40 (lv_at hl 0 rfl) ?_
        refine W.lcmp hx hb d_D_compare_42 ?_
        refine lv_if_ge (tgt := 50) hx hb d_D_compare_43 (by decide) (fun c_43 => ?_) (fun c_43 => ?_)
        · have hf := (zbr hf).2 (zc_ge.mp c_43)
          refine lv_iconst (v := 1) hx hb d_D_compare_50 (by decide) ?_
          exact hret ((1 : Int32)) () H locs ls _ d_D_compare_51 hP hD hS (Option.some.inj hf)
        · have hf := (zbr hf).1 (zc_nge c_43)
          refine lv_iconst (v := (-1)) hx hb d_D_compare_46 (by decide) ?_
          refine lv_goto (tgt := 51) hx hb d_D_compare_47 (by decide) ?_
          exact hret (((-1) : Int32)) () H locs ls _ d_D_compare_51 hP hD hS (Option.some.inj hf)
      · have hf := (zbr hf).1 (zc_eq.mp c_33)
        refine lv_iconst (v := 0) hx hb d_D_compare_36 (by decide) ?_
        exact hret ((0 : Int32)) () H locs ls _ d_D_compare_37 hP hD hS (Option.some.inj hf)
    · have hf := (zbr hf).2 c_11
      refine lv_iconst (v := 2) hx hb d_D_compare_14 (by decide) ?_
      exact hret ((2 : Int32)) () H locs ls _ d_D_compare_15 hP hD hS (Option.some.inj hf)
theorem d_D_whole_0 : decode c_D_whole 0 = .ok (.iload_n 3, 1) := by decide +kernel
theorem d_D_whole_1 : decode c_D_whole 1 = .ok (.ifCond .lt 8, 3) := by decide +kernel
theorem d_D_whole_4 : decode c_D_whole 4 = .ok (.iload_n 3, 1) := by decide +kernel
theorem d_D_whole_5 : decode c_D_whole 5 = .ok (.iconst 2, 1) := by decide +kernel
theorem d_D_whole_6 : decode c_D_whole 6 = .ok (.if_icmp .le 13, 3) := by decide +kernel
theorem d_D_whole_9 : decode c_D_whole 9 = .ok (.new 23, 3) := by decide +kernel
theorem d_D_whole_12 : decode c_D_whole 12 = .ok (.dup, 1) := by decide +kernel
theorem d_D_whole_13 : decode c_D_whole 13 = .ok (.ldc 103, 2) := by decide +kernel
theorem d_D_whole_15 : decode c_D_whole 15 = .ok (.invokespecial 27, 3) := by decide +kernel
theorem d_D_whole_18 : decode c_D_whole 18 = .ok (.athrow, 1) := by decide +kernel
theorem d_D_whole_19 : decode c_D_whole 19 = .ok (.lload_n 1, 1) := by decide +kernel
theorem d_D_whole_20 : decode c_D_whole 20 = .ok (.invokestatic 105, 3) := by decide +kernel
theorem d_D_whole_23 : decode c_D_whole 23 = .ok (.lstore 4, 2) := by decide +kernel
theorem d_D_whole_25 : decode c_D_whole 25 = .ok (.iload_n 3, 1) := by decide +kernel
theorem d_D_whole_26 : decode c_D_whole 26 = .ok (.ifCond .ne 8, 3) := by decide +kernel
theorem d_D_whole_29 : decode c_D_whole 29 = .ok (.lload 4, 2) := by decide +kernel
theorem d_D_whole_31 : decode c_D_whole 31 = .ok (.l2i, 1) := by decide +kernel
theorem d_D_whole_32 : decode c_D_whole 32 = .ok (.i2l, 1) := by decide +kernel
theorem d_D_whole_33 : decode c_D_whole 33 = .ok (.lreturn, 1) := by decide +kernel
theorem d_D_whole_34 : decode c_D_whole 34 = .ok (.iload_n 3, 1) := by decide +kernel
theorem d_D_whole_35 : decode c_D_whole 35 = .ok (.iconst 1, 1) := by decide +kernel
theorem d_D_whole_36 : decode c_D_whole 36 = .ok (.if_icmp .ne 12, 3) := by decide +kernel
theorem d_D_whole_39 : decode c_D_whole 39 = .ok (.lload 4, 2) := by decide +kernel
theorem d_D_whole_41 : decode c_D_whole 41 = .ok (.ldc2_w 108, 3) := by decide +kernel
theorem d_D_whole_44 : decode c_D_whole 44 = .ok (.land, 1) := by decide +kernel
theorem d_D_whole_45 : decode c_D_whole 45 = .ok (.goto 9, 3) := by decide +kernel
theorem d_D_whole_48 : decode c_D_whole 48 = .ok (.lload 4, 2) := by decide +kernel
theorem d_D_whole_50 : decode c_D_whole 50 = .ok (.ldc2_w 110, 3) := by decide +kernel
theorem d_D_whole_53 : decode c_D_whole 53 = .ok (.land, 1) := by decide +kernel
theorem d_D_whole_54 : decode c_D_whole 54 = .ok (.lreturn, 1) := by decide +kernel
theorem zn_D_105 : zNS R_D 105 y_H_lowBits c_H_lowBits 7 (some .long) 1 := ⟨zco_H_lowBits, zin_H, zml_D_105, zst_H_lowBits, by decide +kernel⟩
set_option maxHeartbeats 4000000 in
set_option maxRecDepth 100000 in
theorem k_D_whole (κ : zC) (X : zXT) (hX : zX κ X) (l : Launch) (a_t a_t_reader a_t_writer : Nat) (sz : Nat) (x1 : Int64) (x3 : Int32) (out : Int64) (hf : f_D_whole x1 x3 = some out) : zMet κ X l y_D_whole c_D_whole 6 (some .long) 3 69 [.ref a_t, .long x1, .int x3] sz [(a_t, .inr (0, [.ref a_t_reader, .ref a_t_writer]))] (zQl κ (fun (r : Int64) (_ : Unit) => r = out) (fun u => [(a_t, .inr (0, [.ref a_t_reader, .ref a_t_writer]))])) := by
  refine zMet.ofL (by decide +kernel) (Nat.le_of_ble_eq_true rfl) ?_
  intro p e s m args below meth c ls A Q hF hK hP hD hA hXs hS hl hret
  obtain ⟨hx, hb, hml, hown, hts⟩ := id hF
  obtain ⟨H, hH⟩ : ∃ H, H = s.heap := ⟨_, rfl⟩
  obtain ⟨locs, hlo⟩ : ∃ z : List Loc, z = [] := ⟨_, rfl⟩
  replace hP : zP κ [(a_t, .inr (0, [.ref a_t_reader, .ref a_t_writer]))] H := by rw [hH]; exact hP
  replace hS : va_S A s.heap H locs := by rw [hH, hlo]; exact hS
  suffices hgo : W p l e (zR 3 69) s m args below meth c H locs 0 0 Q (F0 m 0 ls []) by rw [hH, hlo] at hgo; exact hgo
  clear hH hlo
  replace hl : lv_has ls 6 [(0, .ref a_t), (1, .long x1), (3, .int x3)] := hl
  unfold f_D_whole at hf
  refine lv_iload_n hx hb d_D_whole_0 rfl (lv_at hl 2 rfl) ?_
  refine lv_if_lt (tgt := 9) hx hb d_D_whole_1 (by decide) (fun c_1 => ?_) (fun c_1 => ?_)
  · have hf := (zbr hf).1 c_1
    cases hf
  · have hf := (zbr hf).2 c_1
    refine lv_iload_n hx hb d_D_whole_4 rfl (lv_at hl 2 rfl) ?_
    refine lv_iconst (v := 2) hx hb d_D_whole_5 (by decide) ?_
    refine lv_icmp_le (tgt := 19) hx hb d_D_whole_6 (by decide) (fun c_6 => ?_) (fun c_6 => ?_)
    · have hf := (zbr hf).1 c_6
      refine lv_lload_n hx hb d_D_whole_19 rfl (lv_at hl 1 rfl) ?_
      obtain ⟨o_20, ho_20, hf⟩ := zbd hf
      refine zSl (isC := []) (isR := [0]) (isN := [0]) (wc := []) (wr := [(a_t, .inr (0, [.ref a_t_reader, .ref a_t_writer]))]) (wn := fun u => [(a_t, .inr (0, [.ref a_t_reader, .ref a_t_writer]))]) (rest := []) (As := [.long x1]) hF zn_D_105 (k_H_lowBits κ X hX l H.size x1 o_20 ho_20) hX hXs hK hA hP hD hS ⟨by decide, by decide⟩ ⟨rfl, rfl, rfl, rfl, rfl, by decide⟩ ⟨rfl, fun _ => rfl, fun _ => rfl⟩ rfl hl.1 rfl (Nat.le_of_ble_eq_true rfl) ⟨Nat.zero_le _, Nat.zero_le _⟩ d_D_whole_20 (fun r_20 u H locs hw hP hD hS => ?_)
      subst hw
      refine lv_lstore (lv' := [(4, .long r_20), (0, .ref a_t), (1, .long x1), (3, .int x3)]) hx hb d_D_whole_23 hl (by decide) rfl (fun ls hl => ?_)
      refine lv_iload_n hx hb d_D_whole_25 rfl (lv_at hl 3 rfl) ?_
      refine lv_if_ne (tgt := 34) hx hb d_D_whole_26 (by decide) (fun c_26 => ?_) (fun c_26 => ?_)
      · have hf := (zbr hf).2 c_26
        refine lv_iload_n hx hb d_D_whole_34 rfl (lv_at hl 3 rfl) ?_
        refine lv_iconst (v := 1) hx hb d_D_whole_35 (by decide) ?_
        refine lv_icmp_ne (tgt := 48) hx hb d_D_whole_36 (by decide) (fun c_36 => ?_) (fun c_36 => ?_)
        · have hf := (zbr hf).2 c_36
          refine lv_lload hx hb d_D_whole_48 (lv_at hl 0 rfl) ?_
          refine lv_ldc2 (v := 65535) hx hb hown (hts _ zkl_D_110) d_D_whole_50 ?_
          refine lv_land hx hb d_D_whole_53 ?_
          exact hret ((r_20 &&& 65535)) () H locs ls _ d_D_whole_54 hP hD hS (Option.some.inj hf)
        · have hf := (zbr hf).1 c_36
          refine lv_lload hx hb d_D_whole_39 (lv_at hl 0 rfl) ?_
          refine lv_ldc2 (v := 4294967295) hx hb hown (hts _ zkl_D_108) d_D_whole_41 ?_
          refine lv_land hx hb d_D_whole_44 ?_
          refine lv_goto (tgt := 54) hx hb d_D_whole_45 (by decide) ?_
          exact hret ((r_20 &&& 4294967295)) () H locs ls _ d_D_whole_54 hP hD hS (Option.some.inj hf)
      · have hf := (zbr hf).1 c_26
        refine lv_lload hx hb d_D_whole_29 (lv_at hl 0 rfl) ?_
        refine lv_l2i hx hb d_D_whole_31 rfl ?_
        refine lv_i2l hx hb d_D_whole_32 rfl ?_
        exact hret (((r_20).toInt32).toInt64) () H locs ls _ d_D_whole_33 hP hD hS (Option.some.inj hf)
    · have hf := (zbr hf).2 c_6
      cases hf
theorem d_D_of_0 : decode c_D_of 0 = .ok (.lload_n 1, 1) := by decide +kernel
theorem d_D_of_1 : decode c_D_of 1 = .ok (.lconst 0, 1) := by decide +kernel
theorem d_D_of_2 : decode c_D_of 2 = .ok (.lcmp, 1) := by decide +kernel
theorem d_D_of_3 : decode c_D_of 3 = .ok (.ifCond .lt 10, 3) := by decide +kernel
theorem d_D_of_6 : decode c_D_of 6 = .ok (.lconst 0, 1) := by decide +kernel
theorem d_D_of_7 : decode c_D_of 7 = .ok (.lload_n 1, 1) := by decide +kernel
theorem d_D_of_8 : decode c_D_of 8 = .ok (.iconst 0, 1) := by decide +kernel
theorem d_D_of_9 : decode c_D_of 9 = .ok (.invokestatic 112, 3) := by decide +kernel
theorem d_D_of_12 : decode c_D_of 12 = .ok (.lreturn, 1) := by decide +kernel
theorem d_D_of_13 : decode c_D_of 13 = .ok (.lload_n 1, 1) := by decide +kernel
theorem d_D_of_14 : decode c_D_of 14 = .ok (.ldc2_w 89, 3) := by decide +kernel
theorem d_D_of_17 : decode c_D_of 17 = .ok (.lcmp, 1) := by decide +kernel
theorem d_D_of_18 : decode c_D_of 18 = .ok (.ifCond .ne 13, 3) := by decide +kernel
theorem d_D_of_21 : decode c_D_of 21 = .ok (.ldc2_w 89, 3) := by decide +kernel
theorem d_D_of_24 : decode c_D_of 24 = .ok (.lconst 1, 1) := by decide +kernel
theorem d_D_of_25 : decode c_D_of 25 = .ok (.bipush 63, 2) := by decide +kernel
theorem d_D_of_27 : decode c_D_of 27 = .ok (.invokestatic 112, 3) := by decide +kernel
theorem d_D_of_30 : decode c_D_of 30 = .ok (.lreturn, 1) := by decide +kernel
theorem d_D_of_31 : decode c_D_of 31 = .ok (.ldc2_w 89, 3) := by decide +kernel
theorem d_D_of_34 : decode c_D_of 34 = .ok (.lload_n 1, 1) := by decide +kernel
theorem d_D_of_35 : decode c_D_of 35 = .ok (.lneg, 1) := by decide +kernel
theorem d_D_of_36 : decode c_D_of 36 = .ok (.iconst 0, 1) := by decide +kernel
theorem d_D_of_37 : decode c_D_of 37 = .ok (.invokestatic 112, 3) := by decide +kernel
theorem d_D_of_40 : decode c_D_of 40 = .ok (.lreturn, 1) := by decide +kernel
theorem zn_D_112 : zNS R_D 112 y_B_round c_B_round 9 (some .long) 3 := ⟨zco_B_round, zin_B, zml_D_112, zst_B_round, by decide +kernel⟩
set_option maxHeartbeats 4000000 in
set_option maxRecDepth 100000 in
theorem k_D_of (κ : zC) (X : zXT) (hX : zX κ X) (l : Launch) (a_t a_t_reader a_t_writer : Nat) (sz : Nat) (x1 : Int64) (out : Int64) (hf : f_D_of x1 = some out) : zMet κ X l y_D_of c_D_of 3 (some .long) 3 72 [.ref a_t, .long x1] sz [(a_t, .inr (0, [.ref a_t_reader, .ref a_t_writer]))] (zQl κ (fun (r : Int64) (_ : Unit) => r = out) (fun u => [(a_t, .inr (0, [.ref a_t_reader, .ref a_t_writer]))])) := by
  refine zMet.ofL (by decide +kernel) (Nat.le_of_ble_eq_true rfl) ?_
  intro p e s m args below meth c ls A Q hF hK hP hD hA hXs hS hl hret
  obtain ⟨hx, hb, hml, hown, hts⟩ := id hF
  obtain ⟨H, hH⟩ : ∃ H, H = s.heap := ⟨_, rfl⟩
  obtain ⟨locs, hlo⟩ : ∃ z : List Loc, z = [] := ⟨_, rfl⟩
  replace hP : zP κ [(a_t, .inr (0, [.ref a_t_reader, .ref a_t_writer]))] H := by rw [hH]; exact hP
  replace hS : va_S A s.heap H locs := by rw [hH, hlo]; exact hS
  suffices hgo : W p l e (zR 3 72) s m args below meth c H locs 0 0 Q (F0 m 0 ls []) by rw [hH, hlo] at hgo; exact hgo
  clear hH hlo
  replace hl : lv_has ls 3 [(0, .ref a_t), (1, .long x1)] := hl
  unfold f_D_of at hf
  refine lv_lload_n hx hb d_D_of_0 rfl (lv_at hl 1 rfl) ?_
  refine lv_lconst (v := 0) hx hb d_D_of_1 (by decide) ?_
  refine W.lcmp hx hb d_D_of_2 ?_
  refine lv_if_lt (tgt := 13) hx hb d_D_of_3 (by decide) (fun c_3 => ?_) (fun c_3 => ?_)
  · have hf := (zbr hf).1 (zc_lt.mp c_3)
    refine lv_lload_n hx hb d_D_of_13 rfl (lv_at hl 1 rfl) ?_
    refine lv_ldc2 (v := (-9223372036854775808)) hx hb hown (hts _ zkl_D_89) d_D_of_14 ?_
    refine W.lcmp hx hb d_D_of_17 ?_
    refine lv_if_ne (tgt := 31) hx hb d_D_of_18 (by decide) (fun c_18 => ?_) (fun c_18 => ?_)
    · have hf := (zbr hf).2 (zc_neq c_18)
      refine lv_ldc2 (v := (-9223372036854775808)) hx hb hown (hts _ zkl_D_89) d_D_of_31 ?_
      refine lv_lload_n hx hb d_D_of_34 rfl (lv_at hl 1 rfl) ?_
      refine lv_lneg hx hb d_D_of_35 ?_
      refine lv_iconst (v := 0) hx hb d_D_of_36 (by decide) ?_
      obtain ⟨o_37, ho_37, hf⟩ := zbd hf
      refine zSl (isC := []) (isR := [0]) (isN := [0]) (wc := []) (wr := [(a_t, .inr (0, [.ref a_t_reader, .ref a_t_writer]))]) (wn := fun u => [(a_t, .inr (0, [.ref a_t_reader, .ref a_t_writer]))]) (rest := []) (As := [.long (-9223372036854775808), .long (-x1), .int 0]) hF zn_D_112 (k_B_round κ X hX l H.size (-9223372036854775808) (-x1) 0 o_37 ho_37) hX hXs hK hA hP hD hS ⟨by decide, by decide⟩ ⟨rfl, rfl, rfl, rfl, rfl, by decide⟩ ⟨rfl, fun _ => rfl, fun _ => rfl⟩ rfl hl.1 rfl (Nat.le_of_ble_eq_true rfl) ⟨Nat.zero_le _, Nat.zero_le _⟩ d_D_of_37 (fun r_37 u H locs hw hP hD hS => ?_)
      subst hw
      exact hret (r_37) () H locs ls _ d_D_of_40 hP hD hS (Option.some.inj hf)
    · have hf := (zbr hf).1 (zc_eq.mp c_18)
      refine lv_ldc2 (v := (-9223372036854775808)) hx hb hown (hts _ zkl_D_89) d_D_of_21 ?_
      refine lv_lconst (v := 1) hx hb d_D_of_24 (by decide) ?_
      refine lv_bipush (v := 63) hx hb d_D_of_25 (by decide) ?_
      obtain ⟨o_27, ho_27, hf⟩ := zbd hf
      refine zSl (isC := []) (isR := [0]) (isN := [0]) (wc := []) (wr := [(a_t, .inr (0, [.ref a_t_reader, .ref a_t_writer]))]) (wn := fun u => [(a_t, .inr (0, [.ref a_t_reader, .ref a_t_writer]))]) (rest := []) (As := [.long (-9223372036854775808), .long 1, .int 63]) hF zn_D_112 (k_B_round κ X hX l H.size (-9223372036854775808) 1 63 o_27 ho_27) hX hXs hK hA hP hD hS ⟨by decide, by decide⟩ ⟨rfl, rfl, rfl, rfl, rfl, by decide⟩ ⟨rfl, fun _ => rfl, fun _ => rfl⟩ rfl hl.1 rfl (Nat.le_of_ble_eq_true rfl) ⟨Nat.zero_le _, Nat.zero_le _⟩ d_D_of_27 (fun r_27 u H locs hw hP hD hS => ?_)
      subst hw
      exact hret (r_27) () H locs ls _ d_D_of_30 hP hD hS (Option.some.inj hf)
  · have hf := (zbr hf).2 (zc_nlt c_3)
    refine lv_lconst (v := 0) hx hb d_D_of_6 (by decide) ?_
    refine lv_lload_n hx hb d_D_of_7 rfl (lv_at hl 1 rfl) ?_
    refine lv_iconst (v := 0) hx hb d_D_of_8 (by decide) ?_
    obtain ⟨o_9, ho_9, hf⟩ := zbd hf
    refine zSl (isC := []) (isR := [0]) (isN := [0]) (wc := []) (wr := [(a_t, .inr (0, [.ref a_t_reader, .ref a_t_writer]))]) (wn := fun u => [(a_t, .inr (0, [.ref a_t_reader, .ref a_t_writer]))]) (rest := []) (As := [.long 0, .long x1, .int 0]) hF zn_D_112 (k_B_round κ X hX l H.size 0 x1 0 o_9 ho_9) hX hXs hK hA hP hD hS ⟨by decide, by decide⟩ ⟨rfl, rfl, rfl, rfl, rfl, by decide⟩ ⟨rfl, fun _ => rfl, fun _ => rfl⟩ rfl hl.1 rfl (Nat.le_of_ble_eq_true rfl) ⟨Nat.zero_le _, Nat.zero_le _⟩ d_D_of_9 (fun r_9 u H locs hw hP hD hS => ?_)
    subst hw
    exact hret (r_9) () H locs ls _ d_D_of_12 hP hD hS (Option.some.inj hf)
theorem d_D_write_0 : decode c_D_write 0 = .ok (.aload_n 0, 1) := by decide +kernel
theorem d_D_write_1 : decode c_D_write 1 = .ok (.getfield 19, 3) := by decide +kernel
theorem d_D_write_4 : decode c_D_write 4 = .ok (.lload_n 1, 1) := by decide +kernel
theorem d_D_write_5 : decode c_D_write 5 = .ok (.invokevirtual 116, 3) := by decide +kernel
theorem d_D_write_8 : decode c_D_write 8 = .ok (.aload_n 0, 1) := by decide +kernel
theorem d_D_write_9 : decode c_D_write 9 = .ok (.getfield 19, 3) := by decide +kernel
theorem d_D_write_12 : decode c_D_write 12 = .ok (.invokevirtual 120, 3) := by decide +kernel
theorem d_D_write_15 : decode c_D_write 15 = .ok (.ireturn, 1) := by decide +kernel
theorem zn_D_116 : zNV R_D 116 y_T_writeText c_T_writeText 5 none 1 := ⟨zco_T_writeText, zin_T, zml_D_116, zim_T_writeText, zse_T_T_writeText, by decide +kernel⟩
theorem zn_D_120 : zNV R_D 120 y_T_length c_T_length 1 (some .int) 0 := ⟨zco_T_length, zin_T, zml_D_120, zim_T_length, zse_T_T_length, by decide +kernel⟩
set_option maxHeartbeats 4000000 in
set_option maxRecDepth 100000 in
theorem k_D_write (κ : zC) (X : zXT) (hX : zX κ X) (l : Launch) (a_t a_t_reader a_t_writer a_t_page a_t_writer_decimal a_t_writer_natural a_t_page_units a_t_writer_decimal_digits a_t_writer_decimal_rest a_t_writer_decimal_scale a_t_writer_decimal_below a_t_writer_decimal_above a_t_writer_decimal_sum a_t_writer_decimal_rest_limbs a_t_writer_decimal_scale_limbs a_t_writer_decimal_below_limbs a_t_writer_decimal_above_limbs a_t_writer_decimal_sum_limbs : Nat) (sz : Nat) (t_page_count : Int32) (t_page_units : Nat → Int32) (t_writer_decimal_count : Int32) (t_writer_decimal_point : Int32) (t_writer_decimal_digits : Nat → Int32) (t_writer_decimal_rest_used : Int32) (t_writer_decimal_rest_limbs : Nat → Int32) (t_writer_decimal_scale_used : Int32) (t_writer_decimal_scale_limbs : Nat → Int32) (t_writer_decimal_below_used : Int32) (t_writer_decimal_below_limbs : Nat → Int32) (t_writer_decimal_above_used : Int32) (t_writer_decimal_above_limbs : Nat → Int32) (t_writer_decimal_sum_used : Int32) (t_writer_decimal_sum_limbs : Nat → Int32) (x1 : Int64) (out : Int32 × ((Int32) × (Nat → Int32) × (Int32) × (Int32) × (Nat → Int32) × (Int32) × (Nat → Int32) × (Int32) × (Nat → Int32) × (Int32) × (Nat → Int32) × (Int32) × (Nat → Int32) × (Int32) × (Nat → Int32))) (hf : f_D_write t_page_count t_page_units t_writer_decimal_count t_writer_decimal_point t_writer_decimal_digits t_writer_decimal_rest_used t_writer_decimal_rest_limbs t_writer_decimal_scale_used t_writer_decimal_scale_limbs t_writer_decimal_below_used t_writer_decimal_below_limbs t_writer_decimal_above_used t_writer_decimal_above_limbs t_writer_decimal_sum_used t_writer_decimal_sum_limbs x1 = some out) : zMet κ X l y_D_write c_D_write 3 (some .int) 7 153 [.ref a_t, .long x1] sz [(a_t, .inr (0, [.ref a_t_reader, .ref a_t_writer])), (a_t_writer, .inr (5, [.ref a_t_page, .ref a_t_writer_decimal, .ref a_t_writer_natural])), (a_t_page, .inr (3, [.ref a_t_page_units, .int t_page_count])), (a_t_page_units, .inl (κ.2.2.1, 1100, .inl t_page_units)), (a_t_writer_decimal, .inr (1, [.ref a_t_writer_decimal_digits, .int t_writer_decimal_count, .int t_writer_decimal_point, .ref a_t_writer_decimal_rest, .ref a_t_writer_decimal_scale, .ref a_t_writer_decimal_below, .ref a_t_writer_decimal_above, .ref a_t_writer_decimal_sum])), (a_t_writer_decimal_digits, .inl (κ.2.1, 48, .inl t_writer_decimal_digits)), (a_t_writer_decimal_rest, .inr (2, [.ref a_t_writer_decimal_rest_limbs, .int t_writer_decimal_rest_used])), (a_t_writer_decimal_rest_limbs, .inl (κ.2.1, 48, .inl t_writer_decimal_rest_limbs)), (a_t_writer_decimal_scale, .inr (2, [.ref a_t_writer_decimal_scale_limbs, .int t_writer_decimal_scale_used])), (a_t_writer_decimal_scale_limbs, .inl (κ.2.1, 48, .inl t_writer_decimal_scale_limbs)), (a_t_writer_decimal_below, .inr (2, [.ref a_t_writer_decimal_below_limbs, .int t_writer_decimal_below_used])), (a_t_writer_decimal_below_limbs, .inl (κ.2.1, 48, .inl t_writer_decimal_below_limbs)), (a_t_writer_decimal_above, .inr (2, [.ref a_t_writer_decimal_above_limbs, .int t_writer_decimal_above_used])), (a_t_writer_decimal_above_limbs, .inl (κ.2.1, 48, .inl t_writer_decimal_above_limbs)), (a_t_writer_decimal_sum, .inr (2, [.ref a_t_writer_decimal_sum_limbs, .int t_writer_decimal_sum_used])), (a_t_writer_decimal_sum_limbs, .inl (κ.2.1, 48, .inl t_writer_decimal_sum_limbs))] (zQi κ (fun (r : Int32) (u : (Int32) × (Nat → Int32) × (Int32) × (Int32) × (Nat → Int32) × (Int32) × (Nat → Int32) × (Int32) × (Nat → Int32) × (Int32) × (Nat → Int32) × (Int32) × (Nat → Int32) × (Int32) × (Nat → Int32)) => (r, u) = out) (fun u => [(a_t, .inr (0, [.ref a_t_reader, .ref a_t_writer])), (a_t_writer, .inr (5, [.ref a_t_page, .ref a_t_writer_decimal, .ref a_t_writer_natural])), (a_t_page, .inr (3, [.ref a_t_page_units, .int u.1])), (a_t_page_units, .inl (κ.2.2.1, 1100, .inl u.2.1)), (a_t_writer_decimal, .inr (1, [.ref a_t_writer_decimal_digits, .int u.2.2.1, .int u.2.2.2.1, .ref a_t_writer_decimal_rest, .ref a_t_writer_decimal_scale, .ref a_t_writer_decimal_below, .ref a_t_writer_decimal_above, .ref a_t_writer_decimal_sum])), (a_t_writer_decimal_digits, .inl (κ.2.1, 48, .inl u.2.2.2.2.1)), (a_t_writer_decimal_rest, .inr (2, [.ref a_t_writer_decimal_rest_limbs, .int u.2.2.2.2.2.1])), (a_t_writer_decimal_rest_limbs, .inl (κ.2.1, 48, .inl u.2.2.2.2.2.2.1)), (a_t_writer_decimal_scale, .inr (2, [.ref a_t_writer_decimal_scale_limbs, .int u.2.2.2.2.2.2.2.1])), (a_t_writer_decimal_scale_limbs, .inl (κ.2.1, 48, .inl u.2.2.2.2.2.2.2.2.1)), (a_t_writer_decimal_below, .inr (2, [.ref a_t_writer_decimal_below_limbs, .int u.2.2.2.2.2.2.2.2.2.1])), (a_t_writer_decimal_below_limbs, .inl (κ.2.1, 48, .inl u.2.2.2.2.2.2.2.2.2.2.1)), (a_t_writer_decimal_above, .inr (2, [.ref a_t_writer_decimal_above_limbs, .int u.2.2.2.2.2.2.2.2.2.2.2.1])), (a_t_writer_decimal_above_limbs, .inl (κ.2.1, 48, .inl u.2.2.2.2.2.2.2.2.2.2.2.2.1)), (a_t_writer_decimal_sum, .inr (2, [.ref a_t_writer_decimal_sum_limbs, .int u.2.2.2.2.2.2.2.2.2.2.2.2.2.1])), (a_t_writer_decimal_sum_limbs, .inl (κ.2.1, 48, .inl u.2.2.2.2.2.2.2.2.2.2.2.2.2.2))])) := by
  refine zMet.ofI (by decide +kernel) (Nat.le_of_ble_eq_true rfl) ?_
  intro p e s m args below meth c ls A Q hF hK hP hD hA hXs hS hl hret
  obtain ⟨hx, hb, hml, hown, hts⟩ := id hF
  obtain ⟨H, hH⟩ : ∃ H, H = s.heap := ⟨_, rfl⟩
  obtain ⟨locs, hlo⟩ : ∃ z : List Loc, z = [] := ⟨_, rfl⟩
  replace hP : zP κ [(a_t, .inr (0, [.ref a_t_reader, .ref a_t_writer])), (a_t_writer, .inr (5, [.ref a_t_page, .ref a_t_writer_decimal, .ref a_t_writer_natural])), (a_t_page, .inr (3, [.ref a_t_page_units, .int t_page_count])), (a_t_page_units, .inl (κ.2.2.1, 1100, .inl t_page_units)), (a_t_writer_decimal, .inr (1, [.ref a_t_writer_decimal_digits, .int t_writer_decimal_count, .int t_writer_decimal_point, .ref a_t_writer_decimal_rest, .ref a_t_writer_decimal_scale, .ref a_t_writer_decimal_below, .ref a_t_writer_decimal_above, .ref a_t_writer_decimal_sum])), (a_t_writer_decimal_digits, .inl (κ.2.1, 48, .inl t_writer_decimal_digits)), (a_t_writer_decimal_rest, .inr (2, [.ref a_t_writer_decimal_rest_limbs, .int t_writer_decimal_rest_used])), (a_t_writer_decimal_rest_limbs, .inl (κ.2.1, 48, .inl t_writer_decimal_rest_limbs)), (a_t_writer_decimal_scale, .inr (2, [.ref a_t_writer_decimal_scale_limbs, .int t_writer_decimal_scale_used])), (a_t_writer_decimal_scale_limbs, .inl (κ.2.1, 48, .inl t_writer_decimal_scale_limbs)), (a_t_writer_decimal_below, .inr (2, [.ref a_t_writer_decimal_below_limbs, .int t_writer_decimal_below_used])), (a_t_writer_decimal_below_limbs, .inl (κ.2.1, 48, .inl t_writer_decimal_below_limbs)), (a_t_writer_decimal_above, .inr (2, [.ref a_t_writer_decimal_above_limbs, .int t_writer_decimal_above_used])), (a_t_writer_decimal_above_limbs, .inl (κ.2.1, 48, .inl t_writer_decimal_above_limbs)), (a_t_writer_decimal_sum, .inr (2, [.ref a_t_writer_decimal_sum_limbs, .int t_writer_decimal_sum_used])), (a_t_writer_decimal_sum_limbs, .inl (κ.2.1, 48, .inl t_writer_decimal_sum_limbs))] H := by rw [hH]; exact hP
  replace hS : va_S A s.heap H locs := by rw [hH, hlo]; exact hS
  suffices hgo : W p l e (zR 7 153) s m args below meth c H locs 0 0 Q (F0 m 0 ls []) by rw [hH, hlo] at hgo; exact hgo
  clear hH hlo
  replace hl : lv_has ls 3 [(0, .ref a_t), (1, .long x1)] := hl
  unfold f_D_write at hf
  refine lv_aload_n hx hb d_D_write_0 rfl (lv_at hl 0 rfl) ?_
  refine va_get (C := R_D) (T := F_D) (N := 2) hx hb hts i_D hown hK hP 0 rfl rfl 1 (by decide) (hts _ zfl_D_19) (fun _ h9 => h9) rfl d_D_write_1 ?_
  refine lv_lload_n hx hb d_D_write_4 rfl (lv_at hl 1 rfl) ?_
  obtain ⟨o_5, ho_5, hf⟩ := zbd hf
  refine zVv (isC := [1, 2, 3, 4, 5, 6, 7, 8, 9, 10, 11, 12, 13, 14, 15]) (isR := [0]) (isN := [0, 1, 2, 3, 4, 5, 6, 7, 8, 9, 10, 11, 12, 13, 14, 15]) (wc := [(a_t_writer, .inr (5, [.ref a_t_page, .ref a_t_writer_decimal, .ref a_t_writer_natural])), (a_t_page, .inr (3, [.ref a_t_page_units, .int t_page_count])), (a_t_page_units, .inl (κ.2.2.1, 1100, .inl t_page_units)), (a_t_writer_decimal, .inr (1, [.ref a_t_writer_decimal_digits, .int t_writer_decimal_count, .int t_writer_decimal_point, .ref a_t_writer_decimal_rest, .ref a_t_writer_decimal_scale, .ref a_t_writer_decimal_below, .ref a_t_writer_decimal_above, .ref a_t_writer_decimal_sum])), (a_t_writer_decimal_digits, .inl (κ.2.1, 48, .inl t_writer_decimal_digits)), (a_t_writer_decimal_rest, .inr (2, [.ref a_t_writer_decimal_rest_limbs, .int t_writer_decimal_rest_used])), (a_t_writer_decimal_rest_limbs, .inl (κ.2.1, 48, .inl t_writer_decimal_rest_limbs)), (a_t_writer_decimal_scale, .inr (2, [.ref a_t_writer_decimal_scale_limbs, .int t_writer_decimal_scale_used])), (a_t_writer_decimal_scale_limbs, .inl (κ.2.1, 48, .inl t_writer_decimal_scale_limbs)), (a_t_writer_decimal_below, .inr (2, [.ref a_t_writer_decimal_below_limbs, .int t_writer_decimal_below_used])), (a_t_writer_decimal_below_limbs, .inl (κ.2.1, 48, .inl t_writer_decimal_below_limbs)), (a_t_writer_decimal_above, .inr (2, [.ref a_t_writer_decimal_above_limbs, .int t_writer_decimal_above_used])), (a_t_writer_decimal_above_limbs, .inl (κ.2.1, 48, .inl t_writer_decimal_above_limbs)), (a_t_writer_decimal_sum, .inr (2, [.ref a_t_writer_decimal_sum_limbs, .int t_writer_decimal_sum_used])), (a_t_writer_decimal_sum_limbs, .inl (κ.2.1, 48, .inl t_writer_decimal_sum_limbs))]) (wr := [(a_t, .inr (0, [.ref a_t_reader, .ref a_t_writer]))]) (wn := fun u => [(a_t, .inr (0, [.ref a_t_reader, .ref a_t_writer])), (a_t_writer, .inr (5, [.ref a_t_page, .ref a_t_writer_decimal, .ref a_t_writer_natural])), (a_t_page, .inr (3, [.ref a_t_page_units, .int u.1])), (a_t_page_units, .inl (κ.2.2.1, 1100, .inl u.2.1)), (a_t_writer_decimal, .inr (1, [.ref a_t_writer_decimal_digits, .int u.2.2.1, .int u.2.2.2.1, .ref a_t_writer_decimal_rest, .ref a_t_writer_decimal_scale, .ref a_t_writer_decimal_below, .ref a_t_writer_decimal_above, .ref a_t_writer_decimal_sum])), (a_t_writer_decimal_digits, .inl (κ.2.1, 48, .inl u.2.2.2.2.1)), (a_t_writer_decimal_rest, .inr (2, [.ref a_t_writer_decimal_rest_limbs, .int u.2.2.2.2.2.1])), (a_t_writer_decimal_rest_limbs, .inl (κ.2.1, 48, .inl u.2.2.2.2.2.2.1)), (a_t_writer_decimal_scale, .inr (2, [.ref a_t_writer_decimal_scale_limbs, .int u.2.2.2.2.2.2.2.1])), (a_t_writer_decimal_scale_limbs, .inl (κ.2.1, 48, .inl u.2.2.2.2.2.2.2.2.1)), (a_t_writer_decimal_below, .inr (2, [.ref a_t_writer_decimal_below_limbs, .int u.2.2.2.2.2.2.2.2.2.1])), (a_t_writer_decimal_below_limbs, .inl (κ.2.1, 48, .inl u.2.2.2.2.2.2.2.2.2.2.1)), (a_t_writer_decimal_above, .inr (2, [.ref a_t_writer_decimal_above_limbs, .int u.2.2.2.2.2.2.2.2.2.2.2.1])), (a_t_writer_decimal_above_limbs, .inl (κ.2.1, 48, .inl u.2.2.2.2.2.2.2.2.2.2.2.2.1)), (a_t_writer_decimal_sum, .inr (2, [.ref a_t_writer_decimal_sum_limbs, .int u.2.2.2.2.2.2.2.2.2.2.2.2.2.1])), (a_t_writer_decimal_sum_limbs, .inl (κ.2.1, 48, .inl u.2.2.2.2.2.2.2.2.2.2.2.2.2.2))]) (rest := []) (As := [.long x1]) hF zn_D_116 (k_T_writeText κ X hX l a_t_writer a_t_page a_t_writer_decimal a_t_writer_natural a_t_page_units a_t_writer_decimal_digits a_t_writer_decimal_rest a_t_writer_decimal_scale a_t_writer_decimal_below a_t_writer_decimal_above a_t_writer_decimal_sum a_t_writer_decimal_rest_limbs a_t_writer_decimal_scale_limbs a_t_writer_decimal_below_limbs a_t_writer_decimal_above_limbs a_t_writer_decimal_sum_limbs H.size t_page_count t_page_units t_writer_decimal_count t_writer_decimal_point t_writer_decimal_digits t_writer_decimal_rest_used t_writer_decimal_rest_limbs t_writer_decimal_scale_used t_writer_decimal_scale_limbs t_writer_decimal_below_used t_writer_decimal_below_limbs t_writer_decimal_above_used t_writer_decimal_above_limbs t_writer_decimal_sum_used t_writer_decimal_sum_limbs x1 o_5 ho_5) hX hXs hK hA hP hD hS ⟨by decide, by decide⟩ ⟨rfl, rfl, rfl, rfl, rfl, by decide⟩ ⟨rfl, fun _ => rfl, fun _ => rfl⟩ (ci := 5) rfl rfl rfl rfl hl.1 rfl (Nat.le_of_ble_eq_true rfl) ⟨Nat.zero_le _, Nat.zero_le _⟩ d_D_write_5 (fun u H locs hw hP hD hS => ?_)
  obtain ⟨u5_t_page_count, u5_t_page_units, u5_t_writer_decimal_count, u5_t_writer_decimal_point, u5_t_writer_decimal_digits, u5_t_writer_decimal_rest_used, u5_t_writer_decimal_rest_limbs, u5_t_writer_decimal_scale_used, u5_t_writer_decimal_scale_limbs, u5_t_writer_decimal_below_used, u5_t_writer_decimal_below_limbs, u5_t_writer_decimal_above_used, u5_t_writer_decimal_above_limbs, u5_t_writer_decimal_sum_used, u5_t_writer_decimal_sum_limbs⟩ := u
  have hP : zP κ [(a_t, .inr (0, [.ref a_t_reader, .ref a_t_writer])), (a_t_writer, .inr (5, [.ref a_t_page, .ref a_t_writer_decimal, .ref a_t_writer_natural])), (a_t_page, .inr (3, [.ref a_t_page_units, .int u5_t_page_count])), (a_t_page_units, .inl (κ.2.2.1, 1100, .inl u5_t_page_units)), (a_t_writer_decimal, .inr (1, [.ref a_t_writer_decimal_digits, .int u5_t_writer_decimal_count, .int u5_t_writer_decimal_point, .ref a_t_writer_decimal_rest, .ref a_t_writer_decimal_scale, .ref a_t_writer_decimal_below, .ref a_t_writer_decimal_above, .ref a_t_writer_decimal_sum])), (a_t_writer_decimal_digits, .inl (κ.2.1, 48, .inl u5_t_writer_decimal_digits)), (a_t_writer_decimal_rest, .inr (2, [.ref a_t_writer_decimal_rest_limbs, .int u5_t_writer_decimal_rest_used])), (a_t_writer_decimal_rest_limbs, .inl (κ.2.1, 48, .inl u5_t_writer_decimal_rest_limbs)), (a_t_writer_decimal_scale, .inr (2, [.ref a_t_writer_decimal_scale_limbs, .int u5_t_writer_decimal_scale_used])), (a_t_writer_decimal_scale_limbs, .inl (κ.2.1, 48, .inl u5_t_writer_decimal_scale_limbs)), (a_t_writer_decimal_below, .inr (2, [.ref a_t_writer_decimal_below_limbs, .int u5_t_writer_decimal_below_used])), (a_t_writer_decimal_below_limbs, .inl (κ.2.1, 48, .inl u5_t_writer_decimal_below_limbs)), (a_t_writer_decimal_above, .inr (2, [.ref a_t_writer_decimal_above_limbs, .int u5_t_writer_decimal_above_used])), (a_t_writer_decimal_above_limbs, .inl (κ.2.1, 48, .inl u5_t_writer_decimal_above_limbs)), (a_t_writer_decimal_sum, .inr (2, [.ref a_t_writer_decimal_sum_limbs, .int u5_t_writer_decimal_sum_used])), (a_t_writer_decimal_sum_limbs, .inl (κ.2.1, 48, .inl u5_t_writer_decimal_sum_limbs))] H := hP
  have hD : va_D A [(a_t, .inr (0, [.ref a_t_reader, .ref a_t_writer])), (a_t_writer, .inr (5, [.ref a_t_page, .ref a_t_writer_decimal, .ref a_t_writer_natural])), (a_t_page, .inr (3, [.ref a_t_page_units, .int u5_t_page_count])), (a_t_page_units, .inl (κ.2.2.1, 1100, .inl u5_t_page_units)), (a_t_writer_decimal, .inr (1, [.ref a_t_writer_decimal_digits, .int u5_t_writer_decimal_count, .int u5_t_writer_decimal_point, .ref a_t_writer_decimal_rest, .ref a_t_writer_decimal_scale, .ref a_t_writer_decimal_below, .ref a_t_writer_decimal_above, .ref a_t_writer_decimal_sum])), (a_t_writer_decimal_digits, .inl (κ.2.1, 48, .inl u5_t_writer_decimal_digits)), (a_t_writer_decimal_rest, .inr (2, [.ref a_t_writer_decimal_rest_limbs, .int u5_t_writer_decimal_rest_used])), (a_t_writer_decimal_rest_limbs, .inl (κ.2.1, 48, .inl u5_t_writer_decimal_rest_limbs)), (a_t_writer_decimal_scale, .inr (2, [.ref a_t_writer_decimal_scale_limbs, .int u5_t_writer_decimal_scale_used])), (a_t_writer_decimal_scale_limbs, .inl (κ.2.1, 48, .inl u5_t_writer_decimal_scale_limbs)), (a_t_writer_decimal_below, .inr (2, [.ref a_t_writer_decimal_below_limbs, .int u5_t_writer_decimal_below_used])), (a_t_writer_decimal_below_limbs, .inl (κ.2.1, 48, .inl u5_t_writer_decimal_below_limbs)), (a_t_writer_decimal_above, .inr (2, [.ref a_t_writer_decimal_above_limbs, .int u5_t_writer_decimal_above_used])), (a_t_writer_decimal_above_limbs, .inl (κ.2.1, 48, .inl u5_t_writer_decimal_above_limbs)), (a_t_writer_decimal_sum, .inr (2, [.ref a_t_writer_decimal_sum_limbs, .int u5_t_writer_decimal_sum_used])), (a_t_writer_decimal_sum_limbs, .inl (κ.2.1, 48, .inl u5_t_writer_decimal_sum_limbs))] := hD
  subst hw
  dsimp only at hf
  refine lv_aload_n hx hb d_D_write_8 rfl (lv_at hl 0 rfl) ?_
  refine va_get (C := R_D) (T := F_D) (N := 2) hx hb hts i_D hown hK hP 0 rfl rfl 1 (by decide) (hts _ zfl_D_19) (fun _ h9 => h9) rfl d_D_write_9 ?_
  obtain ⟨o_12, ho_12, hf⟩ := zbd hf
  refine zVi (isC := [1, 2]) (isR := [0, 3, 4, 5, 6, 7, 8, 9, 10, 11, 12, 13, 14, 15]) (isN := [0, 14, 15, 1, 2, 3, 4, 5, 6, 7, 8, 9, 10, 11, 12, 13]) (wc := [(a_t_writer, .inr (5, [.ref a_t_page, .ref a_t_writer_decimal, .ref a_t_writer_natural])), (a_t_page, .inr (3, [.ref a_t_page_units, .int u5_t_page_count]))]) (wr := [(a_t, .inr (0, [.ref a_t_reader, .ref a_t_writer])), (a_t_page_units, .inl (κ.2.2.1, 1100, .inl u5_t_page_units)), (a_t_writer_decimal, .inr (1, [.ref a_t_writer_decimal_digits, .int u5_t_writer_decimal_count, .int u5_t_writer_decimal_point, .ref a_t_writer_decimal_rest, .ref a_t_writer_decimal_scale, .ref a_t_writer_decimal_below, .ref a_t_writer_decimal_above, .ref a_t_writer_decimal_sum])), (a_t_writer_decimal_digits, .inl (κ.2.1, 48, .inl u5_t_writer_decimal_digits)), (a_t_writer_decimal_rest, .inr (2, [.ref a_t_writer_decimal_rest_limbs, .int u5_t_writer_decimal_rest_used])), (a_t_writer_decimal_rest_limbs, .inl (κ.2.1, 48, .inl u5_t_writer_decimal_rest_limbs)), (a_t_writer_decimal_scale, .inr (2, [.ref a_t_writer_decimal_scale_limbs, .int u5_t_writer_decimal_scale_used])), (a_t_writer_decimal_scale_limbs, .inl (κ.2.1, 48, .inl u5_t_writer_decimal_scale_limbs)), (a_t_writer_decimal_below, .inr (2, [.ref a_t_writer_decimal_below_limbs, .int u5_t_writer_decimal_below_used])), (a_t_writer_decimal_below_limbs, .inl (κ.2.1, 48, .inl u5_t_writer_decimal_below_limbs)), (a_t_writer_decimal_above, .inr (2, [.ref a_t_writer_decimal_above_limbs, .int u5_t_writer_decimal_above_used])), (a_t_writer_decimal_above_limbs, .inl (κ.2.1, 48, .inl u5_t_writer_decimal_above_limbs)), (a_t_writer_decimal_sum, .inr (2, [.ref a_t_writer_decimal_sum_limbs, .int u5_t_writer_decimal_sum_used])), (a_t_writer_decimal_sum_limbs, .inl (κ.2.1, 48, .inl u5_t_writer_decimal_sum_limbs))]) (wn := fun u => [(a_t, .inr (0, [.ref a_t_reader, .ref a_t_writer])), (a_t_writer, .inr (5, [.ref a_t_page, .ref a_t_writer_decimal, .ref a_t_writer_natural])), (a_t_page, .inr (3, [.ref a_t_page_units, .int u5_t_page_count])), (a_t_page_units, .inl (κ.2.2.1, 1100, .inl u5_t_page_units)), (a_t_writer_decimal, .inr (1, [.ref a_t_writer_decimal_digits, .int u5_t_writer_decimal_count, .int u5_t_writer_decimal_point, .ref a_t_writer_decimal_rest, .ref a_t_writer_decimal_scale, .ref a_t_writer_decimal_below, .ref a_t_writer_decimal_above, .ref a_t_writer_decimal_sum])), (a_t_writer_decimal_digits, .inl (κ.2.1, 48, .inl u5_t_writer_decimal_digits)), (a_t_writer_decimal_rest, .inr (2, [.ref a_t_writer_decimal_rest_limbs, .int u5_t_writer_decimal_rest_used])), (a_t_writer_decimal_rest_limbs, .inl (κ.2.1, 48, .inl u5_t_writer_decimal_rest_limbs)), (a_t_writer_decimal_scale, .inr (2, [.ref a_t_writer_decimal_scale_limbs, .int u5_t_writer_decimal_scale_used])), (a_t_writer_decimal_scale_limbs, .inl (κ.2.1, 48, .inl u5_t_writer_decimal_scale_limbs)), (a_t_writer_decimal_below, .inr (2, [.ref a_t_writer_decimal_below_limbs, .int u5_t_writer_decimal_below_used])), (a_t_writer_decimal_below_limbs, .inl (κ.2.1, 48, .inl u5_t_writer_decimal_below_limbs)), (a_t_writer_decimal_above, .inr (2, [.ref a_t_writer_decimal_above_limbs, .int u5_t_writer_decimal_above_used])), (a_t_writer_decimal_above_limbs, .inl (κ.2.1, 48, .inl u5_t_writer_decimal_above_limbs)), (a_t_writer_decimal_sum, .inr (2, [.ref a_t_writer_decimal_sum_limbs, .int u5_t_writer_decimal_sum_used])), (a_t_writer_decimal_sum_limbs, .inl (κ.2.1, 48, .inl u5_t_writer_decimal_sum_limbs))]) (rest := []) (As := []) hF zn_D_120 (k_T_length κ X hX l a_t_writer a_t_page a_t_writer_decimal a_t_writer_natural a_t_page_units H.size u5_t_page_count o_12 ho_12) hX hXs hK hA hP hD hS ⟨by decide, by decide⟩ ⟨rfl, rfl, rfl, rfl, rfl, by decide⟩ ⟨rfl, fun _ => rfl, fun _ => rfl⟩ (ci := 5) rfl rfl rfl rfl hl.1 rfl (Nat.le_of_ble_eq_true rfl) ⟨Nat.zero_le _, Nat.zero_le _⟩ d_D_write_12 (fun r_12 u H locs hw hP hD hS => ?_)
  subst hw
  exact hret (r_12) ((u5_t_page_count, u5_t_page_units, u5_t_writer_decimal_count, u5_t_writer_decimal_point, u5_t_writer_decimal_digits, u5_t_writer_decimal_rest_used, u5_t_writer_decimal_rest_limbs, u5_t_writer_decimal_scale_used, u5_t_writer_decimal_scale_limbs, u5_t_writer_decimal_below_used, u5_t_writer_decimal_below_limbs, u5_t_writer_decimal_above_used, u5_t_writer_decimal_above_limbs, u5_t_writer_decimal_sum_used, u5_t_writer_decimal_sum_limbs)) H locs ls _ d_D_write_15 hP hD hS (Option.some.inj hf)
theorem d_D_radix_0 : decode c_D_radix 0 = .ok (.iload_n 3, 1) := by decide +kernel
theorem d_D_radix_1 : decode c_D_radix 1 = .ok (.iconst 2, 1) := by decide +kernel
theorem d_D_radix_2 : decode c_D_radix 2 = .ok (.if_icmp .lt 15, 3) := by decide +kernel
theorem d_D_radix_5 : decode c_D_radix 5 = .ok (.iload_n 3, 1) := by decide +kernel
theorem d_D_radix_6 : decode c_D_radix 6 = .ok (.bipush 36, 2) := by decide +kernel
theorem d_D_radix_8 : decode c_D_radix 8 = .ok (.if_icmp .gt 9, 3) := by decide +kernel
theorem d_D_radix_11 : decode c_D_radix 11 = .ok (.iload_n 3, 1) := by decide +kernel
theorem d_D_radix_12 : decode c_D_radix 12 = .ok (.bipush 10, 2) := by decide +kernel
theorem d_D_radix_14 : decode c_D_radix 14 = .ok (.if_icmp .ne 13, 3) := by decide +kernel
theorem d_D_radix_17 : decode c_D_radix 17 = .ok (.new 23, 3) := by decide +kernel
theorem d_D_radix_20 : decode c_D_radix 20 = .ok (.dup, 1) := by decide +kernel
theorem d_D_radix_21 : decode c_D_radix 21 = .ok (.ldc 121, 2) := by decide +kernel
theorem d_D_radix_23 : decode c_D_radix 23 = .ok (.invokespecial 27, 3) := by decide +kernel
theorem d_D_radix_26 : decode c_D_radix 26 = .ok (.athrow, 1) := by decide +kernel
theorem d_D_radix_27 : decode c_D_radix 27 = .ok (.aload_n 0, 1) := by decide +kernel
theorem d_D_radix_28 : decode c_D_radix 28 = .ok (.getfield 19, 3) := by decide +kernel
theorem d_D_radix_31 : decode c_D_radix 31 = .ok (.lload_n 1, 1) := by decide +kernel
theorem d_D_radix_32 : decode c_D_radix 32 = .ok (.iload_n 3, 1) := by decide +kernel
theorem d_D_radix_33 : decode c_D_radix 33 = .ok (.invokevirtual 123, 3) := by decide +kernel
theorem d_D_radix_36 : decode c_D_radix 36 = .ok (.aload_n 0, 1) := by decide +kernel
theorem d_D_radix_37 : decode c_D_radix 37 = .ok (.getfield 19, 3) := by decide +kernel
theorem d_D_radix_40 : decode c_D_radix 40 = .ok (.invokevirtual 120, 3) := by decide +kernel
theorem d_D_radix_43 : decode c_D_radix 43 = .ok (.ireturn, 1) := by decide +kernel
theorem zn_D_123 : zNV R_D 123 y_T_writeInRadix c_T_writeInRadix 9 none 2 := ⟨zco_T_writeInRadix, zin_T, zml_D_123, zim_T_writeInRadix, zse_T_T_writeInRadix, by decide +kernel⟩
set_option maxHeartbeats 4000000 in
set_option maxRecDepth 100000 in
theorem k_D_radix (κ : zC) (X : zXT) (hX : zX κ X) (l : Launch) (a_t a_t_reader a_t_writer a_t_page a_t_writer_decimal a_t_writer_natural a_t_page_units a_t_writer_natural_limbs : Nat) (sz : Nat) (t_page_count : Int32) (t_page_units : Nat → Int32) (t_writer_natural_used : Int32) (t_writer_natural_limbs : Nat → Int32) (x1 : Int64) (x3 : Int32) (out : Int32 × ((Int32) × (Nat → Int32) × (Int32) × (Nat → Int32))) (hf : f_D_radix t_page_count t_page_units t_writer_natural_used t_writer_natural_limbs x1 x3 = some out) : zMet κ X l y_D_radix c_D_radix 4 (some .int) 7 157 [.ref a_t, .long x1, .int x3] sz [(a_t, .inr (0, [.ref a_t_reader, .ref a_t_writer])), (a_t_writer, .inr (5, [.ref a_t_page, .ref a_t_writer_decimal, .ref a_t_writer_natural])), (a_t_page, .inr (3, [.ref a_t_page_units, .int t_page_count])), (a_t_page_units, .inl (κ.2.2.1, 1100, .inl t_page_units)), (a_t_writer_natural, .inr (2, [.ref a_t_writer_natural_limbs, .int t_writer_natural_used])), (a_t_writer_natural_limbs, .inl (κ.2.1, 48, .inl t_writer_natural_limbs))] (zQi κ (fun (r : Int32) (u : (Int32) × (Nat → Int32) × (Int32) × (Nat → Int32)) => (r, u) = out) (fun u => [(a_t, .inr (0, [.ref a_t_reader, .ref a_t_writer])), (a_t_writer, .inr (5, [.ref a_t_page, .ref a_t_writer_decimal, .ref a_t_writer_natural])), (a_t_page, .inr (3, [.ref a_t_page_units, .int u.1])), (a_t_page_units, .inl (κ.2.2.1, 1100, .inl u.2.1)), (a_t_writer_natural, .inr (2, [.ref a_t_writer_natural_limbs, .int u.2.2.1])), (a_t_writer_natural_limbs, .inl (κ.2.1, 48, .inl u.2.2.2))])) := by
  refine zMet.ofI (by decide +kernel) (Nat.le_of_ble_eq_true rfl) ?_
  intro p e s m args below meth c ls A Q hF hK hP hD hA hXs hS hl hret
  obtain ⟨hx, hb, hml, hown, hts⟩ := id hF
  obtain ⟨H, hH⟩ : ∃ H, H = s.heap := ⟨_, rfl⟩
  obtain ⟨locs, hlo⟩ : ∃ z : List Loc, z = [] := ⟨_, rfl⟩
  replace hP : zP κ [(a_t, .inr (0, [.ref a_t_reader, .ref a_t_writer])), (a_t_writer, .inr (5, [.ref a_t_page, .ref a_t_writer_decimal, .ref a_t_writer_natural])), (a_t_page, .inr (3, [.ref a_t_page_units, .int t_page_count])), (a_t_page_units, .inl (κ.2.2.1, 1100, .inl t_page_units)), (a_t_writer_natural, .inr (2, [.ref a_t_writer_natural_limbs, .int t_writer_natural_used])), (a_t_writer_natural_limbs, .inl (κ.2.1, 48, .inl t_writer_natural_limbs))] H := by rw [hH]; exact hP
  replace hS : va_S A s.heap H locs := by rw [hH, hlo]; exact hS
  suffices hgo : W p l e (zR 7 157) s m args below meth c H locs 0 0 Q (F0 m 0 ls []) by rw [hH, hlo] at hgo; exact hgo
  clear hH hlo
  replace hl : lv_has ls 4 [(0, .ref a_t), (1, .long x1), (3, .int x3)] := hl
  unfold f_D_radix at hf
  refine lv_iload_n hx hb d_D_radix_0 rfl (lv_at hl 2 rfl) ?_
  refine lv_iconst (v := 2) hx hb d_D_radix_1 (by decide) ?_
  refine lv_icmp_lt (tgt := 17) hx hb d_D_radix_2 (by decide) (fun c_2 => ?_) (fun c_2 => ?_)
  · have hf := (zbr hf).1 c_2
    cases hf
  · have hf := (zbr hf).2 c_2
    refine lv_iload_n hx hb d_D_radix_5 rfl (lv_at hl 2 rfl) ?_
    refine lv_bipush (v := 36) hx hb d_D_radix_6 (by decide) ?_
    refine lv_icmp_gt (tgt := 17) hx hb d_D_radix_8 (by decide) (fun c_8 => ?_) (fun c_8 => ?_)
    · have hf := (zbr hf).1 c_8
      cases hf
    · have hf := (zbr hf).2 c_8
      refine lv_iload_n hx hb d_D_radix_11 rfl (lv_at hl 2 rfl) ?_
      refine lv_bipush (v := 10) hx hb d_D_radix_12 (by decide) ?_
      refine lv_icmp_ne (tgt := 27) hx hb d_D_radix_14 (by decide) (fun c_14 => ?_) (fun c_14 => ?_)
      · have hf := (zbr hf).2 c_14
        refine lv_aload_n hx hb d_D_radix_27 rfl (lv_at hl 0 rfl) ?_
        refine va_get (C := R_D) (T := F_D) (N := 2) hx hb hts i_D hown hK hP 0 rfl rfl 1 (by decide) (hts _ zfl_D_19) (fun _ h9 => h9) rfl d_D_radix_28 ?_
        refine lv_lload_n hx hb d_D_radix_31 rfl (lv_at hl 1 rfl) ?_
        refine lv_iload_n hx hb d_D_radix_32 rfl (lv_at hl 2 rfl) ?_
        obtain ⟨o_33, ho_33, hf⟩ := zbd hf
        refine zVv (isC := [1, 2, 3, 4, 5]) (isR := [0]) (isN := [0, 1, 2, 3, 4, 5]) (wc := [(a_t_writer, .inr (5, [.ref a_t_page, .ref a_t_writer_decimal, .ref a_t_writer_natural])), (a_t_page, .inr (3, [.ref a_t_page_units, .int t_page_count])), (a_t_page_units, .inl (κ.2.2.1, 1100, .inl t_page_units)), (a_t_writer_natural, .inr (2, [.ref a_t_writer_natural_limbs, .int t_writer_natural_used])), (a_t_writer_natural_limbs, .inl (κ.2.1, 48, .inl t_writer_natural_limbs))]) (wr := [(a_t, .inr (0, [.ref a_t_reader, .ref a_t_writer]))]) (wn := fun u => [(a_t, .inr (0, [.ref a_t_reader, .ref a_t_writer])), (a_t_writer, .inr (5, [.ref a_t_page, .ref a_t_writer_decimal, .ref a_t_writer_natural])), (a_t_page, .inr (3, [.ref a_t_page_units, .int u.1])), (a_t_page_units, .inl (κ.2.2.1, 1100, .inl u.2.1)), (a_t_writer_natural, .inr (2, [.ref a_t_writer_natural_limbs, .int u.2.2.1])), (a_t_writer_natural_limbs, .inl (κ.2.1, 48, .inl u.2.2.2))]) (rest := []) (As := [.long x1, .int x3]) hF zn_D_123 (k_T_writeInRadix κ X hX l a_t_writer a_t_page a_t_writer_decimal a_t_writer_natural a_t_page_units a_t_writer_natural_limbs H.size t_page_count t_page_units t_writer_natural_used t_writer_natural_limbs x1 x3 o_33 ho_33) hX hXs hK hA hP hD hS ⟨by decide, by decide⟩ ⟨rfl, rfl, rfl, rfl, rfl, by decide⟩ ⟨rfl, fun _ => rfl, fun _ => rfl⟩ (ci := 5) rfl rfl rfl rfl hl.1 rfl (Nat.le_of_ble_eq_true rfl) ⟨Nat.zero_le _, Nat.zero_le _⟩ d_D_radix_33 (fun u H locs hw hP hD hS => ?_)
        obtain ⟨u33_t_page_count, u33_t_page_units, u33_t_writer_natural_used, u33_t_writer_natural_limbs⟩ := u
        have hP : zP κ [(a_t, .inr (0, [.ref a_t_reader, .ref a_t_writer])), (a_t_writer, .inr (5, [.ref a_t_page, .ref a_t_writer_decimal, .ref a_t_writer_natural])), (a_t_page, .inr (3, [.ref a_t_page_units, .int u33_t_page_count])), (a_t_page_units, .inl (κ.2.2.1, 1100, .inl u33_t_page_units)), (a_t_writer_natural, .inr (2, [.ref a_t_writer_natural_limbs, .int u33_t_writer_natural_used])), (a_t_writer_natural_limbs, .inl (κ.2.1, 48, .inl u33_t_writer_natural_limbs))] H := hP
        have hD : va_D A [(a_t, .inr (0, [.ref a_t_reader, .ref a_t_writer])), (a_t_writer, .inr (5, [.ref a_t_page, .ref a_t_writer_decimal, .ref a_t_writer_natural])), (a_t_page, .inr (3, [.ref a_t_page_units, .int u33_t_page_count])), (a_t_page_units, .inl (κ.2.2.1, 1100, .inl u33_t_page_units)), (a_t_writer_natural, .inr (2, [.ref a_t_writer_natural_limbs, .int u33_t_writer_natural_used])), (a_t_writer_natural_limbs, .inl (κ.2.1, 48, .inl u33_t_writer_natural_limbs))] := hD
        subst hw
        dsimp only at hf
        refine lv_aload_n hx hb d_D_radix_36 rfl (lv_at hl 0 rfl) ?_
        refine va_get (C := R_D) (T := F_D) (N := 2) hx hb hts i_D hown hK hP 0 rfl rfl 1 (by decide) (hts _ zfl_D_19) (fun _ h9 => h9) rfl d_D_radix_37 ?_
        obtain ⟨o_40, ho_40, hf⟩ := zbd hf
        refine zVi (isC := [1, 2]) (isR := [0, 3, 4, 5]) (isN := [0, 4, 5, 1, 2, 3]) (wc := [(a_t_writer, .inr (5, [.ref a_t_page, .ref a_t_writer_decimal, .ref a_t_writer_natural])), (a_t_page, .inr (3, [.ref a_t_page_units, .int u33_t_page_count]))]) (wr := [(a_t, .inr (0, [.ref a_t_reader, .ref a_t_writer])), (a_t_page_units, .inl (κ.2.2.1, 1100, .inl u33_t_page_units)), (a_t_writer_natural, .inr (2, [.ref a_t_writer_natural_limbs, .int u33_t_writer_natural_used])), (a_t_writer_natural_limbs, .inl (κ.2.1, 48, .inl u33_t_writer_natural_limbs))]) (wn := fun u => [(a_t, .inr (0, [.ref a_t_reader, .ref a_t_writer])), (a_t_writer, .inr (5, [.ref a_t_page, .ref a_t_writer_decimal, .ref a_t_writer_natural])), (a_t_page, .inr (3, [.ref a_t_page_units, .int u33_t_page_count])), (a_t_page_units, .inl (κ.2.2.1, 1100, .inl u33_t_page_units)), (a_t_writer_natural, .inr (2, [.ref a_t_writer_natural_limbs, .int u33_t_writer_natural_used])), (a_t_writer_natural_limbs, .inl (κ.2.1, 48, .inl u33_t_writer_natural_limbs))]) (rest := []) (As := []) hF zn_D_120 (k_T_length κ X hX l a_t_writer a_t_page a_t_writer_decimal a_t_writer_natural a_t_page_units H.size u33_t_page_count o_40 ho_40) hX hXs hK hA hP hD hS ⟨by decide, by decide⟩ ⟨rfl, rfl, rfl, rfl, rfl, by decide⟩ ⟨rfl, fun _ => rfl, fun _ => rfl⟩ (ci := 5) rfl rfl rfl rfl hl.1 rfl (Nat.le_of_ble_eq_true rfl) ⟨Nat.zero_le _, Nat.zero_le _⟩ d_D_radix_40 (fun r_40 u H locs hw hP hD hS => ?_)
        subst hw
        exact hret (r_40) ((u33_t_page_count, u33_t_page_units, u33_t_writer_natural_used, u33_t_writer_natural_limbs)) H locs ls _ d_D_radix_43 hP hD hS (Option.some.inj hf)
      · have hf := (zbr hf).1 c_14
        cases hf
theorem d_D_form_0 : decode c_D_form 0 = .ok (.iload_n 3, 1) := by decide +kernel
theorem d_D_form_1 : decode c_D_form 1 = .ok (.tableswitch 134 0 2 #[27, 62, 98], 27) := by decide +kernel
theorem d_D_form_28 : decode c_D_form 28 = .ok (.iload 4, 2) := by decide +kernel
theorem d_D_form_30 : decode c_D_form 30 = .ok (.ifCond .lt 10, 3) := by decide +kernel
theorem d_D_form_33 : decode c_D_form 33 = .ok (.iload 4, 2) := by decide +kernel
theorem d_D_form_35 : decode c_D_form 35 = .ok (.bipush 20, 2) := by decide +kernel
theorem d_D_form_37 : decode c_D_form 37 = .ok (.if_icmp .le 13, 3) := by decide +kernel
theorem d_D_form_40 : decode c_D_form 40 = .ok (.new 23, 3) := by decide +kernel
theorem d_D_form_43 : decode c_D_form 43 = .ok (.dup, 1) := by decide +kernel
theorem d_D_form_44 : decode c_D_form 44 = .ok (.ldc 127, 2) := by decide +kernel
theorem d_D_form_46 : decode c_D_form 46 = .ok (.invokespecial 27, 3) := by decide +kernel
theorem d_D_form_49 : decode c_D_form 49 = .ok (.athrow, 1) := by decide +kernel
theorem d_D_form_50 : decode c_D_form 50 = .ok (.aload_n 0, 1) := by decide +kernel
theorem d_D_form_51 : decode c_D_form 51 = .ok (.getfield 19, 3) := by decide +kernel
theorem d_D_form_54 : decode c_D_form 54 = .ok (.lload_n 1, 1) := by decide +kernel
theorem d_D_form_55 : decode c_D_form 55 = .ok (.iload 4, 2) := by decide +kernel
theorem d_D_form_57 : decode c_D_form 57 = .ok (.invokevirtual 129, 3) := by decide +kernel
theorem d_D_form_60 : decode c_D_form 60 = .ok (.goto 85, 3) := by decide +kernel
theorem d_D_form_63 : decode c_D_form 63 = .ok (.iload 4, 2) := by decide +kernel
theorem d_D_form_65 : decode c_D_form 65 = .ok (.iconst (-1), 1) := by decide +kernel
theorem d_D_form_66 : decode c_D_form 66 = .ok (.if_icmp .lt 10, 3) := by decide +kernel
theorem d_D_form_69 : decode c_D_form 69 = .ok (.iload 4, 2) := by decide +kernel
theorem d_D_form_71 : decode c_D_form 71 = .ok (.bipush 20, 2) := by decide +kernel
theorem d_D_form_73 : decode c_D_form 73 = .ok (.if_icmp .le 13, 3) := by decide +kernel
theorem d_D_form_76 : decode c_D_form 76 = .ok (.new 23, 3) := by decide +kernel
theorem d_D_form_79 : decode c_D_form 79 = .ok (.dup, 1) := by decide +kernel
theorem d_D_form_80 : decode c_D_form 80 = .ok (.ldc 132, 2) := by decide +kernel
theorem d_D_form_82 : decode c_D_form 82 = .ok (.invokespecial 27, 3) := by decide +kernel
theorem d_D_form_85 : decode c_D_form 85 = .ok (.athrow, 1) := by decide +kernel
theorem d_D_form_86 : decode c_D_form 86 = .ok (.aload_n 0, 1) := by decide +kernel
theorem d_D_form_87 : decode c_D_form 87 = .ok (.getfield 19, 3) := by decide +kernel
theorem d_D_form_90 : decode c_D_form 90 = .ok (.lload_n 1, 1) := by decide +kernel
theorem d_D_form_91 : decode c_D_form 91 = .ok (.iload 4, 2) := by decide +kernel
theorem d_D_form_93 : decode c_D_form 93 = .ok (.invokevirtual 134, 3) := by decide +kernel
theorem d_D_form_96 : decode c_D_form 96 = .ok (.goto 49, 3) := by decide +kernel
theorem d_D_form_99 : decode c_D_form 99 = .ok (.iload 4, 2) := by decide +kernel
theorem d_D_form_101 : decode c_D_form 101 = .ok (.iconst 1, 1) := by decide +kernel
theorem d_D_form_102 : decode c_D_form 102 = .ok (.if_icmp .lt 10, 3) := by decide +kernel
theorem d_D_form_105 : decode c_D_form 105 = .ok (.iload 4, 2) := by decide +kernel
theorem d_D_form_107 : decode c_D_form 107 = .ok (.bipush 21, 2) := by decide +kernel
theorem d_D_form_109 : decode c_D_form 109 = .ok (.if_icmp .le 13, 3) := by decide +kernel
theorem d_D_form_112 : decode c_D_form 112 = .ok (.new 23, 3) := by decide +kernel
theorem d_D_form_115 : decode c_D_form 115 = .ok (.dup, 1) := by decide +kernel
theorem d_D_form_116 : decode c_D_form 116 = .ok (.ldc 137, 2) := by decide +kernel
theorem d_D_form_118 : decode c_D_form 118 = .ok (.invokespecial 27, 3) := by decide +kernel
theorem d_D_form_121 : decode c_D_form 121 = .ok (.athrow, 1) := by decide +kernel
theorem d_D_form_122 : decode c_D_form 122 = .ok (.aload_n 0, 1) := by decide +kernel
theorem d_D_form_123 : decode c_D_form 123 = .ok (.getfield 19, 3) := by decide +kernel
theorem d_D_form_126 : decode c_D_form 126 = .ok (.lload_n 1, 1) := by decide +kernel
theorem d_D_form_127 : decode c_D_form 127 = .ok (.iload 4, 2) := by decide +kernel
theorem d_D_form_129 : decode c_D_form 129 = .ok (.invokevirtual 139, 3) := by decide +kernel
theorem d_D_form_132 : decode c_D_form 132 = .ok (.goto 13, 3) := by decide +kernel
theorem d_D_form_135 : decode c_D_form 135 = .ok (.new 23, 3) := by decide +kernel
theorem d_D_form_138 : decode c_D_form 138 = .ok (.dup, 1) := by decide +kernel
theorem d_D_form_139 : decode c_D_form 139 = .ok (.ldc 142, 2) := by decide +kernel
theorem d_D_form_141 : decode c_D_form 141 = .ok (.invokespecial 27, 3) := by decide +kernel
theorem d_D_form_144 : decode c_D_form 144 = .ok (.athrow, 1) := by decide +kernel
theorem d_D_form_145 : decode c_D_form 145 = .ok (.aload_n 0, 1) := by decide +kernel
theorem d_D_form_146 : decode c_D_form 146 = .ok (.getfield 19, 3) := by decide +kernel
theorem d_D_form_149 : decode c_D_form 149 = .ok (.invokevirtual 120, 3) := by decide +kernel
theorem d_D_form_152 : decode c_D_form 152 = .ok (.ireturn, 1) := by decide +kernel
theorem zn_D_129 : zNV R_D 129 y_T_writeFixed c_T_writeFixed 6 none 2 := ⟨zco_T_writeFixed, zin_T, zml_D_129, zim_T_writeFixed, zse_T_T_writeFixed, by decide +kernel⟩
theorem zn_D_134 : zNV R_D 134 y_T_writeExponential c_T_writeExponential 4 none 2 := ⟨zco_T_writeExponential, zin_T, zml_D_134, zim_T_writeExponential, zse_T_T_writeExponential, by decide +kernel⟩
theorem zn_D_139 : zNV R_D 139 y_T_writePrecise c_T_writePrecise 5 none 2 := ⟨zco_T_writePrecise, zin_T, zml_D_139, zim_T_writePrecise, zse_T_T_writePrecise, by decide +kernel⟩
set_option maxHeartbeats 4000000 in
set_option maxRecDepth 100000 in
theorem k_D_form (κ : zC) (X : zXT) (hX : zX κ X) (l : Launch) (a_t a_t_reader a_t_writer a_t_page a_t_writer_decimal a_t_writer_natural a_t_page_units a_t_writer_decimal_digits a_t_writer_decimal_rest a_t_writer_decimal_scale a_t_writer_decimal_below a_t_writer_decimal_above a_t_writer_decimal_sum a_t_writer_decimal_rest_limbs a_t_writer_decimal_scale_limbs a_t_writer_decimal_below_limbs a_t_writer_decimal_above_limbs a_t_writer_decimal_sum_limbs : Nat) (sz : Nat) (t_page_count : Int32) (t_page_units : Nat → Int32) (t_writer_decimal_count : Int32) (t_writer_decimal_point : Int32) (t_writer_decimal_digits : Nat → Int32) (t_writer_decimal_rest_used : Int32) (t_writer_decimal_rest_limbs : Nat → Int32) (t_writer_decimal_scale_used : Int32) (t_writer_decimal_scale_limbs : Nat → Int32) (t_writer_decimal_below_used : Int32) (t_writer_decimal_below_limbs : Nat → Int32) (t_writer_decimal_above_used : Int32) (t_writer_decimal_above_limbs : Nat → Int32) (t_writer_decimal_sum_used : Int32) (t_writer_decimal_sum_limbs : Nat → Int32) (x1 : Int64) (x3 : Int32) (x4 : Int32) (out : Int32 × ((Int32) × (Nat → Int32) × (Int32) × (Int32) × (Nat → Int32) × (Int32) × (Nat → Int32) × (Int32) × (Nat → Int32) × (Int32) × (Nat → Int32) × (Int32) × (Nat → Int32) × (Int32) × (Nat → Int32))) (hf : f_D_form t_page_count t_page_units t_writer_decimal_count t_writer_decimal_point t_writer_decimal_digits t_writer_decimal_rest_used t_writer_decimal_rest_limbs t_writer_decimal_scale_used t_writer_decimal_scale_limbs t_writer_decimal_below_used t_writer_decimal_below_limbs t_writer_decimal_above_used t_writer_decimal_above_limbs t_writer_decimal_sum_used t_writer_decimal_sum_limbs x1 x3 x4 = some out) : zMet κ X l y_D_form c_D_form 5 (some .int) 7 154 [.ref a_t, .long x1, .int x3, .int x4] sz [(a_t, .inr (0, [.ref a_t_reader, .ref a_t_writer])), (a_t_writer, .inr (5, [.ref a_t_page, .ref a_t_writer_decimal, .ref a_t_writer_natural])), (a_t_page, .inr (3, [.ref a_t_page_units, .int t_page_count])), (a_t_page_units, .inl (κ.2.2.1, 1100, .inl t_page_units)), (a_t_writer_decimal, .inr (1, [.ref a_t_writer_decimal_digits, .int t_writer_decimal_count, .int t_writer_decimal_point, .ref a_t_writer_decimal_rest, .ref a_t_writer_decimal_scale, .ref a_t_writer_decimal_below, .ref a_t_writer_decimal_above, .ref a_t_writer_decimal_sum])), (a_t_writer_decimal_digits, .inl (κ.2.1, 48, .inl t_writer_decimal_digits)), (a_t_writer_decimal_rest, .inr (2, [.ref a_t_writer_decimal_rest_limbs, .int t_writer_decimal_rest_used])), (a_t_writer_decimal_rest_limbs, .inl (κ.2.1, 48, .inl t_writer_decimal_rest_limbs)), (a_t_writer_decimal_scale, .inr (2, [.ref a_t_writer_decimal_scale_limbs, .int t_writer_decimal_scale_used])), (a_t_writer_decimal_scale_limbs, .inl (κ.2.1, 48, .inl t_writer_decimal_scale_limbs)), (a_t_writer_decimal_below, .inr (2, [.ref a_t_writer_decimal_below_limbs, .int t_writer_decimal_below_used])), (a_t_writer_decimal_below_limbs, .inl (κ.2.1, 48, .inl t_writer_decimal_below_limbs)), (a_t_writer_decimal_above, .inr (2, [.ref a_t_writer_decimal_above_limbs, .int t_writer_decimal_above_used])), (a_t_writer_decimal_above_limbs, .inl (κ.2.1, 48, .inl t_writer_decimal_above_limbs)), (a_t_writer_decimal_sum, .inr (2, [.ref a_t_writer_decimal_sum_limbs, .int t_writer_decimal_sum_used])), (a_t_writer_decimal_sum_limbs, .inl (κ.2.1, 48, .inl t_writer_decimal_sum_limbs))] (zQi κ (fun (r : Int32) (u : (Int32) × (Nat → Int32) × (Int32) × (Int32) × (Nat → Int32) × (Int32) × (Nat → Int32) × (Int32) × (Nat → Int32) × (Int32) × (Nat → Int32) × (Int32) × (Nat → Int32) × (Int32) × (Nat → Int32)) => (r, u) = out) (fun u => [(a_t, .inr (0, [.ref a_t_reader, .ref a_t_writer])), (a_t_writer, .inr (5, [.ref a_t_page, .ref a_t_writer_decimal, .ref a_t_writer_natural])), (a_t_page, .inr (3, [.ref a_t_page_units, .int u.1])), (a_t_page_units, .inl (κ.2.2.1, 1100, .inl u.2.1)), (a_t_writer_decimal, .inr (1, [.ref a_t_writer_decimal_digits, .int u.2.2.1, .int u.2.2.2.1, .ref a_t_writer_decimal_rest, .ref a_t_writer_decimal_scale, .ref a_t_writer_decimal_below, .ref a_t_writer_decimal_above, .ref a_t_writer_decimal_sum])), (a_t_writer_decimal_digits, .inl (κ.2.1, 48, .inl u.2.2.2.2.1)), (a_t_writer_decimal_rest, .inr (2, [.ref a_t_writer_decimal_rest_limbs, .int u.2.2.2.2.2.1])), (a_t_writer_decimal_rest_limbs, .inl (κ.2.1, 48, .inl u.2.2.2.2.2.2.1)), (a_t_writer_decimal_scale, .inr (2, [.ref a_t_writer_decimal_scale_limbs, .int u.2.2.2.2.2.2.2.1])), (a_t_writer_decimal_scale_limbs, .inl (κ.2.1, 48, .inl u.2.2.2.2.2.2.2.2.1)), (a_t_writer_decimal_below, .inr (2, [.ref a_t_writer_decimal_below_limbs, .int u.2.2.2.2.2.2.2.2.2.1])), (a_t_writer_decimal_below_limbs, .inl (κ.2.1, 48, .inl u.2.2.2.2.2.2.2.2.2.2.1)), (a_t_writer_decimal_above, .inr (2, [.ref a_t_writer_decimal_above_limbs, .int u.2.2.2.2.2.2.2.2.2.2.2.1])), (a_t_writer_decimal_above_limbs, .inl (κ.2.1, 48, .inl u.2.2.2.2.2.2.2.2.2.2.2.2.1)), (a_t_writer_decimal_sum, .inr (2, [.ref a_t_writer_decimal_sum_limbs, .int u.2.2.2.2.2.2.2.2.2.2.2.2.2.1])), (a_t_writer_decimal_sum_limbs, .inl (κ.2.1, 48, .inl u.2.2.2.2.2.2.2.2.2.2.2.2.2.2))])) := by
  refine zMet.ofI (by decide +kernel) (Nat.le_of_ble_eq_true rfl) ?_
  intro p e s m args below meth c ls A Q hF hK hP hD hA hXs hS hl hret
  obtain ⟨hx, hb, hml, hown, hts⟩ := id hF
  obtain ⟨H, hH⟩ : ∃ H, H = s.heap := ⟨_, rfl⟩
  obtain ⟨locs, hlo⟩ : ∃ z : List Loc, z = [] := ⟨_, rfl⟩
  replace hP : zP κ [(a_t, .inr (0, [.ref a_t_reader, .ref a_t_writer])), (a_t_writer, .inr (5, [.ref a_t_page, .ref a_t_writer_decimal, .ref a_t_writer_natural])), (a_t_page, .inr (3, [.ref a_t_page_units, .int t_page_count])), (a_t_page_units, .inl (κ.2.2.1, 1100, .inl t_page_units)), (a_t_writer_decimal, .inr (1, [.ref a_t_writer_decimal_digits, .int t_writer_decimal_count, .int t_writer_decimal_point, .ref a_t_writer_decimal_rest, .ref a_t_writer_decimal_scale, .ref a_t_writer_decimal_below, .ref a_t_writer_decimal_above, .ref a_t_writer_decimal_sum])), (a_t_writer_decimal_digits, .inl (κ.2.1, 48, .inl t_writer_decimal_digits)), (a_t_writer_decimal_rest, .inr (2, [.ref a_t_writer_decimal_rest_limbs, .int t_writer_decimal_rest_used])), (a_t_writer_decimal_rest_limbs, .inl (κ.2.1, 48, .inl t_writer_decimal_rest_limbs)), (a_t_writer_decimal_scale, .inr (2, [.ref a_t_writer_decimal_scale_limbs, .int t_writer_decimal_scale_used])), (a_t_writer_decimal_scale_limbs, .inl (κ.2.1, 48, .inl t_writer_decimal_scale_limbs)), (a_t_writer_decimal_below, .inr (2, [.ref a_t_writer_decimal_below_limbs, .int t_writer_decimal_below_used])), (a_t_writer_decimal_below_limbs, .inl (κ.2.1, 48, .inl t_writer_decimal_below_limbs)), (a_t_writer_decimal_above, .inr (2, [.ref a_t_writer_decimal_above_limbs, .int t_writer_decimal_above_used])), (a_t_writer_decimal_above_limbs, .inl (κ.2.1, 48, .inl t_writer_decimal_above_limbs)), (a_t_writer_decimal_sum, .inr (2, [.ref a_t_writer_decimal_sum_limbs, .int t_writer_decimal_sum_used])), (a_t_writer_decimal_sum_limbs, .inl (κ.2.1, 48, .inl t_writer_decimal_sum_limbs))] H := by rw [hH]; exact hP
  replace hS : va_S A s.heap H locs := by rw [hH, hlo]; exact hS
  suffices hgo : W p l e (zR 7 154) s m args below meth c H locs 0 0 Q (F0 m 0 ls []) by rw [hH, hlo] at hgo; exact hgo
  clear hH hlo
  replace hl : lv_has ls 5 [(0, .ref a_t), (1, .long x1), (3, .int x3), (4, .int x4)] := hl
  have b_145 : ∀ (t_page_count : Int32) (t_page_units : Nat → Int32) (t_writer_decimal_count : Int32) (t_writer_decimal_point : Int32) (t_writer_decimal_digits : Nat → Int32) (t_writer_decimal_rest_used : Int32) (t_writer_decimal_rest_limbs : Nat → Int32) (t_writer_decimal_scale_used : Int32) (t_writer_decimal_scale_limbs : Nat → Int32) (t_writer_decimal_below_used : Int32) (t_writer_decimal_below_limbs : Nat → Int32) (t_writer_decimal_above_used : Int32) (t_writer_decimal_above_limbs : Nat → Int32) (t_writer_decimal_sum_used : Int32) (t_writer_decimal_sum_limbs : Nat → Int32) (H : Heap) (locs : List Loc) (ls : Array Slot), f_D_form_145 t_page_count t_page_units t_writer_decimal_count t_writer_decimal_point t_writer_decimal_digits t_writer_decimal_rest_used t_writer_decimal_rest_limbs t_writer_decimal_scale_used t_writer_decimal_scale_limbs t_writer_decimal_below_used t_writer_decimal_below_limbs t_writer_decimal_above_used t_writer_decimal_above_limbs t_writer_decimal_sum_used t_writer_decimal_sum_limbs = some out → zP κ [(a_t, .inr (0, [.ref a_t_reader, .ref a_t_writer])), (a_t_writer, .inr (5, [.ref a_t_page, .ref a_t_writer_decimal, .ref a_t_writer_natural])), (a_t_page, .inr (3, [.ref a_t_page_units, .int t_page_count])), (a_t_page_units, .inl (κ.2.2.1, 1100, .inl t_page_units)), (a_t_writer_decimal, .inr (1, [.ref a_t_writer_decimal_digits, .int t_writer_decimal_count, .int t_writer_decimal_point, .ref a_t_writer_decimal_rest, .ref a_t_writer_decimal_scale, .ref a_t_writer_decimal_below, .ref a_t_writer_decimal_above, .ref a_t_writer_decimal_sum])), (a_t_writer_decimal_digits, .inl (κ.2.1, 48, .inl t_writer_decimal_digits)), (a_t_writer_decimal_rest, .inr (2, [.ref a_t_writer_decimal_rest_limbs, .int t_writer_decimal_rest_used])), (a_t_writer_decimal_rest_limbs, .inl (κ.2.1, 48, .inl t_writer_decimal_rest_limbs)), (a_t_writer_decimal_scale, .inr (2, [.ref a_t_writer_decimal_scale_limbs, .int t_writer_decimal_scale_used])), (a_t_writer_decimal_scale_limbs, .inl (κ.2.1, 48, .inl t_writer_decimal_scale_limbs)), (a_t_writer_decimal_below, .inr (2, [.ref a_t_writer_decimal_below_limbs, .int t_writer_decimal_below_used])), (a_t_writer_decimal_below_limbs, .inl (κ.2.1, 48, .inl t_writer_decimal_below_limbs)), (a_t_writer_decimal_above, .inr (2, [.ref a_t_writer_decimal_above_limbs, .int t_writer_decimal_above_used])), (a_t_writer_decimal_above_limbs, .inl (κ.2.1, 48, .inl t_writer_decimal_above_limbs)), (a_t_writer_decimal_sum, .inr (2, [.ref a_t_writer_decimal_sum_limbs, .int t_writer_decimal_sum_used])), (a_t_writer_decimal_sum_limbs, .inl (κ.2.1, 48, .inl t_writer_decimal_sum_limbs))] H → va_D A [(a_t, .inr (0, [.ref a_t_reader, .ref a_t_writer])), (a_t_writer, .inr (5, [.ref a_t_page, .ref a_t_writer_decimal, .ref a_t_writer_natural])), (a_t_page, .inr (3, [.ref a_t_page_units, .int t_page_count])), (a_t_page_units, .inl (κ.2.2.1, 1100, .inl t_page_units)), (a_t_writer_decimal, .inr (1, [.ref a_t_writer_decimal_digits, .int t_writer_decimal_count, .int t_writer_decimal_point, .ref a_t_writer_decimal_rest, .ref a_t_writer_decimal_scale, .ref a_t_writer_decimal_below, .ref a_t_writer_decimal_above, .ref a_t_writer_decimal_sum])), (a_t_writer_decimal_digits, .inl (κ.2.1, 48, .inl t_writer_decimal_digits)), (a_t_writer_decimal_rest, .inr (2, [.ref a_t_writer_decimal_rest_limbs, .int t_writer_decimal_rest_used])), (a_t_writer_decimal_rest_limbs, .inl (κ.2.1, 48, .inl t_writer_decimal_rest_limbs)), (a_t_writer_decimal_scale, .inr (2, [.ref a_t_writer_decimal_scale_limbs, .int t_writer_decimal_scale_used])), (a_t_writer_decimal_scale_limbs, .inl (κ.2.1, 48, .inl t_writer_decimal_scale_limbs)), (a_t_writer_decimal_below, .inr (2, [.ref a_t_writer_decimal_below_limbs, .int t_writer_decimal_below_used])), (a_t_writer_decimal_below_limbs, .inl (κ.2.1, 48, .inl t_writer_decimal_below_limbs)), (a_t_writer_decimal_above, .inr (2, [.ref a_t_writer_decimal_above_limbs, .int t_writer_decimal_above_used])), (a_t_writer_decimal_above_limbs, .inl (κ.2.1, 48, .inl t_writer_decimal_above_limbs)), (a_t_writer_decimal_sum, .inr (2, [.ref a_t_writer_decimal_sum_limbs, .int t_writer_decimal_sum_used])), (a_t_writer_decimal_sum_limbs, .inl (κ.2.1, 48, .inl t_writer_decimal_sum_limbs))] → va_S A s.heap H locs → lv_has ls 5 [(0, .ref a_t)] → W p l e (zR 7 154) s m args below meth c H locs 0 0 Q (F0 m 145 ls []) := by
    intro t_page_count t_page_units t_writer_decimal_count t_writer_decimal_point t_writer_decimal_digits t_writer_decimal_rest_used t_writer_decimal_rest_limbs t_writer_decimal_scale_used t_writer_decimal_scale_limbs t_writer_decimal_below_used t_writer_decimal_below_limbs t_writer_decimal_above_used t_writer_decimal_above_limbs t_writer_decimal_sum_used t_writer_decimal_sum_limbs H locs ls hf hP hD hS hl
    unfold f_D_form_145 at hf
    refine lv_aload_n hx hb d_D_form_145 rfl (lv_at hl 0 rfl) ?_
    refine va_get (C := R_D) (T := F_D) (N := 2) hx hb hts i_D hown hK hP 0 rfl rfl 1 (by decide) (hts _ zfl_D_19) (fun _ h9 => h9) rfl d_D_form_146 ?_
    obtain ⟨o_149, ho_149, hf⟩ := zbd hf
    refine zVi (isC := [1, 2]) (isR := [0, 3, 4, 5, 6, 7, 8, 9, 10, 11, 12, 13, 14, 15]) (isN := [0, 14, 15, 1, 2, 3, 4, 5, 6, 7, 8, 9, 10, 11, 12, 13]) (wc := [(a_t_writer, .inr (5, [.ref a_t_page, .ref a_t_writer_decimal, .ref a_t_writer_natural])), (a_t_page, .inr (3, [.ref a_t_page_units, .int t_page_count]))]) (wr := [(a_t, .inr (0, [.ref a_t_reader, .ref a_t_writer])), (a_t_page_units, .inl (κ.2.2.1, 1100, .inl t_page_units)), (a_t_writer_decimal, .inr (1, [.ref a_t_writer_decimal_digits, .int t_writer_decimal_count, .int t_writer_decimal_point, .ref a_t_writer_decimal_rest, .ref a_t_writer_decimal_scale, .ref a_t_writer_decimal_below, .ref a_t_writer_decimal_above, .ref a_t_writer_decimal_sum])), (a_t_writer_decimal_digits, .inl (κ.2.1, 48, .inl t_writer_decimal_digits)), (a_t_writer_decimal_rest, .inr (2, [.ref a_t_writer_decimal_rest_limbs, .int t_writer_decimal_rest_used])), (a_t_writer_decimal_rest_limbs, .inl (κ.2.1, 48, .inl t_writer_decimal_rest_limbs)), (a_t_writer_decimal_scale, .inr (2, [.ref a_t_writer_decimal_scale_limbs, .int t_writer_decimal_scale_used])), (a_t_writer_decimal_scale_limbs, .inl (κ.2.1, 48, .inl t_writer_decimal_scale_limbs)), (a_t_writer_decimal_below, .inr (2, [.ref a_t_writer_decimal_below_limbs, .int t_writer_decimal_below_used])), (a_t_writer_decimal_below_limbs, .inl (κ.2.1, 48, .inl t_writer_decimal_below_limbs)), (a_t_writer_decimal_above, .inr (2, [.ref a_t_writer_decimal_above_limbs, .int t_writer_decimal_above_used])), (a_t_writer_decimal_above_limbs, .inl (κ.2.1, 48, .inl t_writer_decimal_above_limbs)), (a_t_writer_decimal_sum, .inr (2, [.ref a_t_writer_decimal_sum_limbs, .int t_writer_decimal_sum_used])), (a_t_writer_decimal_sum_limbs, .inl (κ.2.1, 48, .inl t_writer_decimal_sum_limbs))]) (wn := fun u => [(a_t, .inr (0, [.ref a_t_reader, .ref a_t_writer])), (a_t_writer, .inr (5, [.ref a_t_page, .ref a_t_writer_decimal, .ref a_t_writer_natural])), (a_t_page, .inr (3, [.ref a_t_page_units, .int t_page_count])), (a_t_page_units, .inl (κ.2.2.1, 1100, .inl t_page_units)), (a_t_writer_decimal, .inr (1, [.ref a_t_writer_decimal_digits, .int t_writer_decimal_count, .int t_writer_decimal_point, .ref a_t_writer_decimal_rest, .ref a_t_writer_decimal_scale, .ref a_t_writer_decimal_below, .ref a_t_writer_decimal_above, .ref a_t_writer_decimal_sum])), (a_t_writer_decimal_digits, .inl (κ.2.1, 48, .inl t_writer_decimal_digits)), (a_t_writer_decimal_rest, .inr (2, [.ref a_t_writer_decimal_rest_limbs, .int t_writer_decimal_rest_used])), (a_t_writer_decimal_rest_limbs, .inl (κ.2.1, 48, .inl t_writer_decimal_rest_limbs)), (a_t_writer_decimal_scale, .inr (2, [.ref a_t_writer_decimal_scale_limbs, .int t_writer_decimal_scale_used])), (a_t_writer_decimal_scale_limbs, .inl (κ.2.1, 48, .inl t_writer_decimal_scale_limbs)), (a_t_writer_decimal_below, .inr (2, [.ref a_t_writer_decimal_below_limbs, .int t_writer_decimal_below_used])), (a_t_writer_decimal_below_limbs, .inl (κ.2.1, 48, .inl t_writer_decimal_below_limbs)), (a_t_writer_decimal_above, .inr (2, [.ref a_t_writer_decimal_above_limbs, .int t_writer_decimal_above_used])), (a_t_writer_decimal_above_limbs, .inl (κ.2.1, 48, .inl t_writer_decimal_above_limbs)), (a_t_writer_decimal_sum, .inr (2, [.ref a_t_writer_decimal_sum_limbs, .int t_writer_decimal_sum_used])), (a_t_writer_decimal_sum_limbs, .inl (κ.2.1, 48, .inl t_writer_decimal_sum_limbs))]) (rest := []) (As := []) hF zn_D_120 (k_T_length κ X hX l a_t_writer a_t_page a_t_writer_decimal a_t_writer_natural a_t_page_units H.size t_page_count o_149 ho_149) hX hXs hK hA hP hD hS ⟨by decide, by decide⟩ ⟨rfl, rfl, rfl, rfl, rfl, by decide⟩ ⟨rfl, fun _ => rfl, fun _ => rfl⟩ (ci := 5) rfl rfl rfl rfl hl.1 rfl (Nat.le_of_ble_eq_true rfl) ⟨Nat.zero_le _, Nat.zero_le _⟩ d_D_form_149 (fun r_149 u H locs hw hP hD hS => ?_)
    subst hw
    exact hret (r_149) ((t_page_count, t_page_units, t_writer_decimal_count, t_writer_decimal_point, t_writer_decimal_digits, t_writer_decimal_rest_used, t_writer_decimal_rest_limbs, t_writer_decimal_scale_used, t_writer_decimal_scale_limbs, t_writer_decimal_below_used, t_writer_decimal_below_limbs, t_writer_decimal_above_used, t_writer_decimal_above_limbs, t_writer_decimal_sum_used, t_writer_decimal_sum_limbs)) H locs ls _ d_D_form_152 hP hD hS (Option.some.inj hf)
  unfold f_D_form at hf
  refine lv_iload_n hx hb d_D_form_0 rfl (lv_at hl 2 rfl) ?_
  by_cases c_1_0 : x3 = 0
  · have hf := (zbr hf).1 c_1_0
    rw [c_1_0]
    refine lv_tableIn (tgt := 28) hx hb d_D_form_1 (by decide) (by decide) (off := 27) (by decide) (by decide) ?_
    refine lv_iload hx hb d_D_form_28 (lv_at hl 3 rfl) ?_
    refine lv_if_lt (tgt := 40) hx hb d_D_form_30 (by decide) (fun c_30 => ?_) (fun c_30 => ?_)
    · have hf := (zbr hf).1 c_30
      cases hf
    · have hf := (zbr hf).2 c_30
      refine lv_iload hx hb d_D_form_33 (lv_at hl 3 rfl) ?_
      refine lv_bipush (v := 20) hx hb d_D_form_35 (by decide) ?_
      refine lv_icmp_le (tgt := 50) hx hb d_D_form_37 (by decide) (fun c_37 => ?_) (fun c_37 => ?_)
      · have hf := (zbr hf).1 c_37
        refine lv_aload_n hx hb d_D_form_50 rfl (lv_at hl 0 rfl) ?_
        refine va_get (C := R_D) (T := F_D) (N := 2) hx hb hts i_D hown hK hP 0 rfl rfl 1 (by decide) (hts _ zfl_D_19) (fun _ h9 => h9) rfl d_D_form_51 ?_
        refine lv_lload_n hx hb d_D_form_54 rfl (lv_at hl 1 rfl) ?_
        refine lv_iload hx hb d_D_form_55 (lv_at hl 3 rfl) ?_
        obtain ⟨o_57, ho_57, hf⟩ := zbd hf
        refine zVv (isC := [1, 2, 3, 4, 5, 6, 7, 8, 9, 10, 11, 12, 13, 14, 15]) (isR := [0]) (isN := [0, 1, 2, 3, 4, 5, 6, 7, 8, 9, 10, 11, 12, 13, 14, 15]) (wc := [(a_t_writer, .inr (5, [.ref a_t_page, .ref a_t_writer_decimal, .ref a_t_writer_natural])), (a_t_page, .inr (3, [.ref a_t_page_units, .int t_page_count])), (a_t_page_units, .inl (κ.2.2.1, 1100, .inl t_page_units)), (a_t_writer_decimal, .inr (1, [.ref a_t_writer_decimal_digits, .int t_writer_decimal_count, .int t_writer_decimal_point, .ref a_t_writer_decimal_rest, .ref a_t_writer_decimal_scale, .ref a_t_writer_decimal_below, .ref a_t_writer_decimal_above, .ref a_t_writer_decimal_sum])), (a_t_writer_decimal_digits, .inl (κ.2.1, 48, .inl t_writer_decimal_digits)), (a_t_writer_decimal_rest, .inr (2, [.ref a_t_writer_decimal_rest_limbs, .int t_writer_decimal_rest_used])), (a_t_writer_decimal_rest_limbs, .inl (κ.2.1, 48, .inl t_writer_decimal_rest_limbs)), (a_t_writer_decimal_scale, .inr (2, [.ref a_t_writer_decimal_scale_limbs, .int t_writer_decimal_scale_used])), (a_t_writer_decimal_scale_limbs, .inl (κ.2.1, 48, .inl t_writer_decimal_scale_limbs)), (a_t_writer_decimal_below, .inr (2, [.ref a_t_writer_decimal_below_limbs, .int t_writer_decimal_below_used])), (a_t_writer_decimal_below_limbs, .inl (κ.2.1, 48, .inl t_writer_decimal_below_limbs)), (a_t_writer_decimal_above, .inr (2, [.ref a_t_writer_decimal_above_limbs, .int t_writer_decimal_above_used])), (a_t_writer_decimal_above_limbs, .inl (κ.2.1, 48, .inl t_writer_decimal_above_limbs)), (a_t_writer_decimal_sum, .inr (2, [.ref a_t_writer_decimal_sum_limbs, .int t_writer_decimal_sum_used])), (a_t_writer_decimal_sum_limbs, .inl (κ.2.1, 48, .inl t_writer_decimal_sum_limbs))]) (wr := [(a_t, .inr (0, [.ref a_t_reader, .ref a_t_writer]))]) (wn := fun u => [(a_t, .inr (0, [.ref a_t_reader, .ref a_t_writer])), (a_t_writer, .inr (5, [.ref a_t_page, .ref a_t_writer_decimal, .ref a_t_writer_natural])), (a_t_page, .inr (3, [.ref a_t_page_units, .int u.1])), (a_t_page_units, .inl (κ.2.2.1, 1100, .inl u.2.1)), (a_t_writer_decimal, .inr (1, [.ref a_t_writer_decimal_digits, .int u.2.2.1, .int u.2.2.2.1, .ref a_t_writer_decimal_rest, .ref a_t_writer_decimal_scale, .ref a_t_writer_decimal_below, .ref a_t_writer_decimal_above, .ref a_t_writer_decimal_sum])), (a_t_writer_decimal_digits, .inl (κ.2.1, 48, .inl u.2.2.2.2.1)), (a_t_writer_decimal_rest, .inr (2, [.ref a_t_writer_decimal_rest_limbs, .int u.2.2.2.2.2.1])), (a_t_writer_decimal_rest_limbs, .inl (κ.2.1, 48, .inl u.2.2.2.2.2.2.1)), (a_t_writer_decimal_scale, .inr (2, [.ref a_t_writer_decimal_scale_limbs, .int u.2.2.2.2.2.2.2.1])), (a_t_writer_decimal_scale_limbs, .inl (κ.2.1, 48, .inl u.2.2.2.2.2.2.2.2.1)), (a_t_writer_decimal_below, .inr (2, [.ref a_t_writer_decimal_below_limbs, .int u.2.2.2.2.2.2.2.2.2.1])), (a_t_writer_decimal_below_limbs, .inl (κ.2.1, 48, .inl u.2.2.2.2.2.2.2.2.2.2.1)), (a_t_writer_decimal_above, .inr (2, [.ref a_t_writer_decimal_above_limbs, .int u.2.2.2.2.2.2.2.2.2.2.2.1])), (a_t_writer_decimal_above_limbs, .inl (κ.2.1, 48, .inl u.2.2.2.2.2.2.2.2.2.2.2.2.1)), (a_t_writer_decimal_sum, .inr (2, [.ref a_t_writer_decimal_sum_limbs, .int u.2.2.2.2.2.2.2.2.2.2.2.2.2.1])), (a_t_writer_decimal_sum_limbs, .inl (κ.2.1, 48, .inl u.2.2.2.2.2.2.2.2.2.2.2.2.2.2))]) (rest := []) (As := [.long x1, .int x4]) hF zn_D_129 (k_T_writeFixed κ X hX l a_t_writer a_t_page a_t_writer_decimal a_t_writer_natural a_t_page_units a_t_writer_decimal_digits a_t_writer_decimal_rest a_t_writer_decimal_scale a_t_writer_decimal_below a_t_writer_decimal_above a_t_writer_decimal_sum a_t_writer_decimal_rest_limbs a_t_writer_decimal_scale_limbs a_t_writer_decimal_below_limbs a_t_writer_decimal_above_limbs a_t_writer_decimal_sum_limbs H.size t_page_count t_page_units t_writer_decimal_count t_writer_decimal_point t_writer_decimal_digits t_writer_decimal_rest_used t_writer_decimal_rest_limbs t_writer_decimal_scale_used t_writer_decimal_scale_limbs t_writer_decimal_below_used t_writer_decimal_below_limbs t_writer_decimal_above_used t_writer_decimal_above_limbs t_writer_decimal_sum_used t_writer_decimal_sum_limbs x1 x4 o_57 ho_57) hX hXs hK hA hP hD hS ⟨by decide, by decide⟩ ⟨rfl, rfl, rfl, rfl, rfl, by decide⟩ ⟨rfl, fun _ => rfl, fun _ => rfl⟩ (ci := 5) rfl rfl rfl rfl hl.1 rfl (Nat.le_of_ble_eq_true rfl) ⟨Nat.zero_le _, Nat.zero_le _⟩ d_D_form_57 (fun u H locs hw hP hD hS => ?_)
        obtain ⟨u57_t_page_count, u57_t_page_units, u57_t_writer_decimal_count, u57_t_writer_decimal_point, u57_t_writer_decimal_digits, u57_t_writer_decimal_rest_used, u57_t_writer_decimal_rest_limbs, u57_t_writer_decimal_scale_used, u57_t_writer_decimal_scale_limbs, u57_t_writer_decimal_below_used, u57_t_writer_decimal_below_limbs, u57_t_writer_decimal_above_used, u57_t_writer_decimal_above_limbs, u57_t_writer_decimal_sum_used, u57_t_writer_decimal_sum_limbs⟩ := u
        have hP : zP κ [(a_t, .inr (0, [.ref a_t_reader, .ref a_t_writer])), (a_t_writer, .inr (5, [.ref a_t_page, .ref a_t_writer_decimal, .ref a_t_writer_natural])), (a_t_page, .inr (3, [.ref a_t_page_units, .int u57_t_page_count])), (a_t_page_units, .inl (κ.2.2.1, 1100, .inl u57_t_page_units)), (a_t_writer_decimal, .inr (1, [.ref a_t_writer_decimal_digits, .int u57_t_writer_decimal_count, .int u57_t_writer_decimal_point, .ref a_t_writer_decimal_rest, .ref a_t_writer_decimal_scale, .ref a_t_writer_decimal_below, .ref a_t_writer_decimal_above, .ref a_t_writer_decimal_sum])), (a_t_writer_decimal_digits, .inl (κ.2.1, 48, .inl u57_t_writer_decimal_digits)), (a_t_writer_decimal_rest, .inr (2, [.ref a_t_writer_decimal_rest_limbs, .int u57_t_writer_decimal_rest_used])), (a_t_writer_decimal_rest_limbs, .inl (κ.2.1, 48, .inl u57_t_writer_decimal_rest_limbs)), (a_t_writer_decimal_scale, .inr (2, [.ref a_t_writer_decimal_scale_limbs, .int u57_t_writer_decimal_scale_used])), (a_t_writer_decimal_scale_limbs, .inl (κ.2.1, 48, .inl u57_t_writer_decimal_scale_limbs)), (a_t_writer_decimal_below, .inr (2, [.ref a_t_writer_decimal_below_limbs, .int u57_t_writer_decimal_below_used])), (a_t_writer_decimal_below_limbs, .inl (κ.2.1, 48, .inl u57_t_writer_decimal_below_limbs)), (a_t_writer_decimal_above, .inr (2, [.ref a_t_writer_decimal_above_limbs, .int u57_t_writer_decimal_above_used])), (a_t_writer_decimal_above_limbs, .inl (κ.2.1, 48, .inl u57_t_writer_decimal_above_limbs)), (a_t_writer_decimal_sum, .inr (2, [.ref a_t_writer_decimal_sum_limbs, .int u57_t_writer_decimal_sum_used])), (a_t_writer_decimal_sum_limbs, .inl (κ.2.1, 48, .inl u57_t_writer_decimal_sum_limbs))] H := hP
        have hD : va_D A [(a_t, .inr (0, [.ref a_t_reader, .ref a_t_writer])), (a_t_writer, .inr (5, [.ref a_t_page, .ref a_t_writer_decimal, .ref a_t_writer_natural])), (a_t_page, .inr (3, [.ref a_t_page_units, .int u57_t_page_count])), (a_t_page_units, .inl (κ.2.2.1, 1100, .inl u57_t_page_units)), (a_t_writer_decimal, .inr (1, [.ref a_t_writer_decimal_digits, .int u57_t_writer_decimal_count, .int u57_t_writer_decimal_point, .ref a_t_writer_decimal_rest, .ref a_t_writer_decimal_scale, .ref a_t_writer_decimal_below, .ref a_t_writer_decimal_above, .ref a_t_writer_decimal_sum])), (a_t_writer_decimal_digits, .inl (κ.2.1, 48, .inl u57_t_writer_decimal_digits)), (a_t_writer_decimal_rest, .inr (2, [.ref a_t_writer_decimal_rest_limbs, .int u57_t_writer_decimal_rest_used])), (a_t_writer_decimal_rest_limbs, .inl (κ.2.1, 48, .inl u57_t_writer_decimal_rest_limbs)), (a_t_writer_decimal_scale, .inr (2, [.ref a_t_writer_decimal_scale_limbs, .int u57_t_writer_decimal_scale_used])), (a_t_writer_decimal_scale_limbs, .inl (κ.2.1, 48, .inl u57_t_writer_decimal_scale_limbs)), (a_t_writer_decimal_below, .inr (2, [.ref a_t_writer_decimal_below_limbs, .int u57_t_writer_decimal_below_used])), (a_t_writer_decimal_below_limbs, .inl (κ.2.1, 48, .inl u57_t_writer_decimal_below_limbs)), (a_t_writer_decimal_above, .inr (2, [.ref a_t_writer_decimal_above_limbs, .int u57_t_writer_decimal_above_used])), (a_t_writer_decimal_above_limbs, .inl (κ.2.1, 48, .inl u57_t_writer_decimal_above_limbs)), (a_t_writer_decimal_sum, .inr (2, [.ref a_t_writer_decimal_sum_limbs, .int u57_t_writer_decimal_sum_used])), (a_t_writer_decimal_sum_limbs, .inl (κ.2.1, 48, .inl u57_t_writer_decimal_sum_limbs))] := hD
        subst hw
        dsimp only at hf
        refine lv_goto (tgt := 145) hx hb d_D_form_60 (by decide) ?_
        exact b_145 u57_t_page_count u57_t_page_units u57_t_writer_decimal_count u57_t_writer_decimal_point u57_t_writer_decimal_digits u57_t_writer_decimal_rest_used u57_t_writer_decimal_rest_limbs u57_t_writer_decimal_scale_used u57_t_writer_decimal_scale_limbs u57_t_writer_decimal_below_used u57_t_writer_decimal_below_limbs u57_t_writer_decimal_above_used u57_t_writer_decimal_above_limbs u57_t_writer_decimal_sum_used u57_t_writer_decimal_sum_limbs H locs ls hf hP hD hS (lv_sub hl [0] rfl)
      · have hf := (zbr hf).2 c_37
        cases hf
  have hf := (zbr hf).2 c_1_0
  by_cases c_1_1 : x3 = 1
  · have hf := (zbr hf).1 c_1_1
    rw [c_1_1]
    refine lv_tableIn (tgt := 63) hx hb d_D_form_1 (by decide) (by decide) (off := 62) (by decide) (by decide) ?_
    refine lv_iload hx hb d_D_form_63 (lv_at hl 3 rfl) ?_
    refine lv_iconst (v := (-1)) hx hb d_D_form_65 (by decide) ?_
    refine lv_icmp_lt (tgt := 76) hx hb d_D_form_66 (by decide) (fun c_66 => ?_) (fun c_66 => ?_)
    · have hf := (zbr hf).1 c_66
      cases hf
    · have hf := (zbr hf).2 c_66
      refine lv_iload hx hb d_D_form_69 (lv_at hl 3 rfl) ?_
      refine lv_bipush (v := 20) hx hb d_D_form_71 (by decide) ?_
      refine lv_icmp_le (tgt := 86) hx hb d_D_form_73 (by decide) (fun c_73 => ?_) (fun c_73 => ?_)
      · have hf := (zbr hf).1 c_73
        refine lv_aload_n hx hb d_D_form_86 rfl (lv_at hl 0 rfl) ?_
        refine va_get (C := R_D) (T := F_D) (N := 2) hx hb hts i_D hown hK hP 0 rfl rfl 1 (by decide) (hts _ zfl_D_19) (fun _ h9 => h9) rfl d_D_form_87 ?_
        refine lv_lload_n hx hb d_D_form_90 rfl (lv_at hl 1 rfl) ?_
        refine lv_iload hx hb d_D_form_91 (lv_at hl 3 rfl) ?_
        obtain ⟨o_93, ho_93, hf⟩ := zbd hf
        refine zVv (isC := [1, 2, 3, 4, 5, 6, 7, 8, 9, 10, 11, 12, 13, 14, 15]) (isR := [0]) (isN := [0, 1, 2, 3, 4, 5, 6, 7, 8, 9, 10, 11, 12, 13, 14, 15]) (wc := [(a_t_writer, .inr (5, [.ref a_t_page, .ref a_t_writer_decimal, .ref a_t_writer_natural])), (a_t_page, .inr (3, [.ref a_t_page_units, .int t_page_count])), (a_t_page_units, .inl (κ.2.2.1, 1100, .inl t_page_units)), (a_t_writer_decimal, .inr (1, [.ref a_t_writer_decimal_digits, .int t_writer_decimal_count, .int t_writer_decimal_point, .ref a_t_writer_decimal_rest, .ref a_t_writer_decimal_scale, .ref a_t_writer_decimal_below, .ref a_t_writer_decimal_above, .ref a_t_writer_decimal_sum])), (a_t_writer_decimal_digits, .inl (κ.2.1, 48, .inl t_writer_decimal_digits)), (a_t_writer_decimal_rest, .inr (2, [.ref a_t_writer_decimal_rest_limbs, .int t_writer_decimal_rest_used])), (a_t_writer_decimal_rest_limbs, .inl (κ.2.1, 48, .inl t_writer_decimal_rest_limbs)), (a_t_writer_decimal_scale, .inr (2, [.ref a_t_writer_decimal_scale_limbs, .int t_writer_decimal_scale_used])), (a_t_writer_decimal_scale_limbs, .inl (κ.2.1, 48, .inl t_writer_decimal_scale_limbs)), (a_t_writer_decimal_below, .inr (2, [.ref a_t_writer_decimal_below_limbs, .int t_writer_decimal_below_used])), (a_t_writer_decimal_below_limbs, .inl (κ.2.1, 48, .inl t_writer_decimal_below_limbs)), (a_t_writer_decimal_above, .inr (2, [.ref a_t_writer_decimal_above_limbs, .int t_writer_decimal_above_used])), (a_t_writer_decimal_above_limbs, .inl (κ.2.1, 48, .inl t_writer_decimal_above_limbs)), (a_t_writer_decimal_sum, .inr (2, [.ref a_t_writer_decimal_sum_limbs, .int t_writer_decimal_sum_used])), (a_t_writer_decimal_sum_limbs, .inl (κ.2.1, 48, .inl t_writer_decimal_sum_limbs))]) (wr := [(a_t, .inr (0, [.ref a_t_reader, .ref a_t_writer]))]) (wn := fun u => [(a_t, .inr (0, [.ref a_t_reader, .ref a_t_writer])), (a_t_writer, .inr (5, [.ref a_t_page, .ref a_t_writer_decimal, .ref a_t_writer_natural])), (a_t_page, .inr (3, [.ref a_t_page_units, .int u.1])), (a_t_page_units, .inl (κ.2.2.1, 1100, .inl u.2.1)), (a_t_writer_decimal, .inr (1, [.ref a_t_writer_decimal_digits, .int u.2.2.1, .int u.2.2.2.1, .ref a_t_writer_decimal_rest, .ref a_t_writer_decimal_scale, .ref a_t_writer_decimal_below, .ref a_t_writer_decimal_above, .ref a_t_writer_decimal_sum])), (a_t_writer_decimal_digits, .inl (κ.2.1, 48, .inl u.2.2.2.2.1)), (a_t_writer_decimal_rest, .inr (2, [.ref a_t_writer_decimal_rest_limbs, .int u.2.2.2.2.2.1])), (a_t_writer_decimal_rest_limbs, .inl (κ.2.1, 48, .inl u.2.2.2.2.2.2.1)), (a_t_writer_decimal_scale, .inr (2, [.ref a_t_writer_decimal_scale_limbs, .int u.2.2.2.2.2.2.2.1])), (a_t_writer_decimal_scale_limbs, .inl (κ.2.1, 48, .inl u.2.2.2.2.2.2.2.2.1)), (a_t_writer_decimal_below, .inr (2, [.ref a_t_writer_decimal_below_limbs, .int u.2.2.2.2.2.2.2.2.2.1])), (a_t_writer_decimal_below_limbs, .inl (κ.2.1, 48, .inl u.2.2.2.2.2.2.2.2.2.2.1)), (a_t_writer_decimal_above, .inr (2, [.ref a_t_writer_decimal_above_limbs, .int u.2.2.2.2.2.2.2.2.2.2.2.1])), (a_t_writer_decimal_above_limbs, .inl (κ.2.1, 48, .inl u.2.2.2.2.2.2.2.2.2.2.2.2.1)), (a_t_writer_decimal_sum, .inr (2, [.ref a_t_writer_decimal_sum_limbs, .int u.2.2.2.2.2.2.2.2.2.2.2.2.2.1])), (a_t_writer_decimal_sum_limbs, .inl (κ.2.1, 48, .inl u.2.2.2.2.2.2.2.2.2.2.2.2.2.2))]) (rest := []) (As := [.long x1, .int x4]) hF zn_D_134 (k_T_writeExponential κ X hX l a_t_writer a_t_page a_t_writer_decimal a_t_writer_natural a_t_page_units a_t_writer_decimal_digits a_t_writer_decimal_rest a_t_writer_decimal_scale a_t_writer_decimal_below a_t_writer_decimal_above a_t_writer_decimal_sum a_t_writer_decimal_rest_limbs a_t_writer_decimal_scale_limbs a_t_writer_decimal_below_limbs a_t_writer_decimal_above_limbs a_t_writer_decimal_sum_limbs H.size t_page_count t_page_units t_writer_decimal_count t_writer_decimal_point t_writer_decimal_digits t_writer_decimal_rest_used t_writer_decimal_rest_limbs t_writer_decimal_scale_used t_writer_decimal_scale_limbs t_writer_decimal_below_used t_writer_decimal_below_limbs t_writer_decimal_above_used t_writer_decimal_above_limbs t_writer_decimal_sum_used t_writer_decimal_sum_limbs x1 x4 o_93 ho_93) hX hXs hK hA hP hD hS ⟨by decide, by decide⟩ ⟨rfl, rfl, rfl, rfl, rfl, by decide⟩ ⟨rfl, fun _ => rfl, fun _ => rfl⟩ (ci := 5) rfl rfl rfl rfl hl.1 rfl (Nat.le_of_ble_eq_true rfl) ⟨Nat.zero_le _, Nat.zero_le _⟩ d_D_form_93 (fun u H locs hw hP hD hS => ?_)
        obtain ⟨u93_t_page_count, u93_t_page_units, u93_t_writer_decimal_count, u93_t_writer_decimal_point, u93_t_writer_decimal_digits, u93_t_writer_decimal_rest_used, u93_t_writer_decimal_rest_limbs, u93_t_writer_decimal_scale_used, u93_t_writer_decimal_scale_limbs, u93_t_writer_decimal_below_used, u93_t_writer_decimal_below_limbs, u93_t_writer_decimal_above_used, u93_t_writer_decimal_above_limbs, u93_t_writer_decimal_sum_used, u93_t_writer_decimal_sum_limbs⟩ := u
        have hP : zP κ [(a_t, .inr (0, [.ref a_t_reader, .ref a_t_writer])), (a_t_writer, .inr (5, [.ref a_t_page, .ref a_t_writer_decimal, .ref a_t_writer_natural])), (a_t_page, .inr (3, [.ref a_t_page_units, .int u93_t_page_count])), (a_t_page_units, .inl (κ.2.2.1, 1100, .inl u93_t_page_units)), (a_t_writer_decimal, .inr (1, [.ref a_t_writer_decimal_digits, .int u93_t_writer_decimal_count, .int u93_t_writer_decimal_point, .ref a_t_writer_decimal_rest, .ref a_t_writer_decimal_scale, .ref a_t_writer_decimal_below, .ref a_t_writer_decimal_above, .ref a_t_writer_decimal_sum])), (a_t_writer_decimal_digits, .inl (κ.2.1, 48, .inl u93_t_writer_decimal_digits)), (a_t_writer_decimal_rest, .inr (2, [.ref a_t_writer_decimal_rest_limbs, .int u93_t_writer_decimal_rest_used])), (a_t_writer_decimal_rest_limbs, .inl (κ.2.1, 48, .inl u93_t_writer_decimal_rest_limbs)), (a_t_writer_decimal_scale, .inr (2, [.ref a_t_writer_decimal_scale_limbs, .int u93_t_writer_decimal_scale_used])), (a_t_writer_decimal_scale_limbs, .inl (κ.2.1, 48, .inl u93_t_writer_decimal_scale_limbs)), (a_t_writer_decimal_below, .inr (2, [.ref a_t_writer_decimal_below_limbs, .int u93_t_writer_decimal_below_used])), (a_t_writer_decimal_below_limbs, .inl (κ.2.1, 48, .inl u93_t_writer_decimal_below_limbs)), (a_t_writer_decimal_above, .inr (2, [.ref a_t_writer_decimal_above_limbs, .int u93_t_writer_decimal_above_used])), (a_t_writer_decimal_above_limbs, .inl (κ.2.1, 48, .inl u93_t_writer_decimal_above_limbs)), (a_t_writer_decimal_sum, .inr (2, [.ref a_t_writer_decimal_sum_limbs, .int u93_t_writer_decimal_sum_used])), (a_t_writer_decimal_sum_limbs, .inl (κ.2.1, 48, .inl u93_t_writer_decimal_sum_limbs))] H := hP
        have hD : va_D A [(a_t, .inr (0, [.ref a_t_reader, .ref a_t_writer])), (a_t_writer, .inr (5, [.ref a_t_page, .ref a_t_writer_decimal, .ref a_t_writer_natural])), (a_t_page, .inr (3, [.ref a_t_page_units, .int u93_t_page_count])), (a_t_page_units, .inl (κ.2.2.1, 1100, .inl u93_t_page_units)), (a_t_writer_decimal, .inr (1, [.ref a_t_writer_decimal_digits, .int u93_t_writer_decimal_count, .int u93_t_writer_decimal_point, .ref a_t_writer_decimal_rest, .ref a_t_writer_decimal_scale, .ref a_t_writer_decimal_below, .ref a_t_writer_decimal_above, .ref a_t_writer_decimal_sum])), (a_t_writer_decimal_digits, .inl (κ.2.1, 48, .inl u93_t_writer_decimal_digits)), (a_t_writer_decimal_rest, .inr (2, [.ref a_t_writer_decimal_rest_limbs, .int u93_t_writer_decimal_rest_used])), (a_t_writer_decimal_rest_limbs, .inl (κ.2.1, 48, .inl u93_t_writer_decimal_rest_limbs)), (a_t_writer_decimal_scale, .inr (2, [.ref a_t_writer_decimal_scale_limbs, .int u93_t_writer_decimal_scale_used])), (a_t_writer_decimal_scale_limbs, .inl (κ.2.1, 48, .inl u93_t_writer_decimal_scale_limbs)), (a_t_writer_decimal_below, .inr (2, [.ref a_t_writer_decimal_below_limbs, .int u93_t_writer_decimal_below_used])), (a_t_writer_decimal_below_limbs, .inl (κ.2.1, 48, .inl u93_t_writer_decimal_below_limbs)), (a_t_writer_decimal_above, .inr (2, [.ref a_t_writer_decimal_above_limbs, .int u93_t_writer_decimal_above_used])), (a_t_writer_decimal_above_limbs, .inl (κ.2.1, 48, .inl u93_t_writer_decimal_above_limbs)), (a_t_writer_decimal_sum, .inr (2, [.ref a_t_writer_decimal_sum_limbs, .int u93_t_writer_decimal_sum_used])), (a_t_writer_decimal_sum_limbs, .inl (κ.2.1, 48, .inl u93_t_writer_decimal_sum_limbs))] := hD
        subst hw
        dsimp only at hf
        refine lv_goto (tgt := 145) hx hb d_D_form_96 (by decide) ?_
        exact b_145 u93_t_page_count u93_t_page_units u93_t_writer_decimal_count u93_t_writer_decimal_point u93_t_writer_decimal_digits u93_t_writer_decimal_rest_used u93_t_writer_decimal_rest_limbs u93_t_writer_decimal_scale_used u93_t_writer_decimal_scale_limbs u93_t_writer_decimal_below_used u93_t_writer_decimal_below_limbs u93_t_writer_decimal_above_used u93_t_writer_decimal_above_limbs u93_t_writer_decimal_sum_used u93_t_writer_decimal_sum_limbs H locs ls hf hP hD hS (lv_sub hl [0] rfl)
      · have hf := (zbr hf).2 c_73
        cases hf
  have hf := (zbr hf).2 c_1_1
  by_cases c_1_2 : x3 = 2
  · have hf := (zbr hf).1 c_1_2
    rw [c_1_2]
    refine lv_tableIn (tgt := 99) hx hb d_D_form_1 (by decide) (by decide) (off := 98) (by decide) (by decide) ?_
    refine lv_iload hx hb d_D_form_99 (lv_at hl 3 rfl) ?_
    refine lv_iconst (v := 1) hx hb d_D_form_101 (by decide) ?_
    refine lv_icmp_lt (tgt := 112) hx hb d_D_form_102 (by decide) (fun c_102 => ?_) (fun c_102 => ?_)
    · have hf := (zbr hf).1 c_102
      cases hf
    · have hf := (zbr hf).2 c_102
      refine lv_iload hx hb d_D_form_105 (lv_at hl 3 rfl) ?_
      refine lv_bipush (v := 21) hx hb d_D_form_107 (by decide) ?_
      refine lv_icmp_le (tgt := 122) hx hb d_D_form_109 (by decide) (fun c_109 => ?_) (fun c_109 => ?_)
      · have hf := (zbr hf).1 c_109
        refine lv_aload_n hx hb d_D_form_122 rfl (lv_at hl 0 rfl) ?_
        refine va_get (C := R_D) (T := F_D) (N := 2) hx hb hts i_D hown hK hP 0 rfl rfl 1 (by decide) (hts _ zfl_D_19) (fun _ h9 => h9) rfl d_D_form_123 ?_
        refine lv_lload_n hx hb d_D_form_126 rfl (lv_at hl 1 rfl) ?_
        refine lv_iload hx hb d_D_form_127 (lv_at hl 3 rfl) ?_
        obtain ⟨o_129, ho_129, hf⟩ := zbd hf
        refine zVv (isC := [1, 2, 3, 4, 5, 6, 7, 8, 9, 10, 11, 14, 15]) (isR := [0, 12, 13]) (isN := [0, 3, 4, 5, 6, 7, 8, 9, 10, 11, 12, 13, 1, 2, 14, 15]) (wc := [(a_t_writer, .inr (5, [.ref a_t_page, .ref a_t_writer_decimal, .ref a_t_writer_natural])), (a_t_page, .inr (3, [.ref a_t_page_units, .int t_page_count])), (a_t_page_units, .inl (κ.2.2.1, 1100, .inl t_page_units)), (a_t_writer_decimal, .inr (1, [.ref a_t_writer_decimal_digits, .int t_writer_decimal_count, .int t_writer_decimal_point, .ref a_t_writer_decimal_rest, .ref a_t_writer_decimal_scale, .ref a_t_writer_decimal_below, .ref a_t_writer_decimal_above, .ref a_t_writer_decimal_sum])), (a_t_writer_decimal_digits, .inl (κ.2.1, 48, .inl t_writer_decimal_digits)), (a_t_writer_decimal_rest, .inr (2, [.ref a_t_writer_decimal_rest_limbs, .int t_writer_decimal_rest_used])), (a_t_writer_decimal_rest_limbs, .inl (κ.2.1, 48, .inl t_writer_decimal_rest_limbs)), (a_t_writer_decimal_scale, .inr (2, [.ref a_t_writer_decimal_scale_limbs, .int t_writer_decimal_scale_used])), (a_t_writer_decimal_scale_limbs, .inl (κ.2.1, 48, .inl t_writer_decimal_scale_limbs)), (a_t_writer_decimal_below, .inr (2, [.ref a_t_writer_decimal_below_limbs, .int t_writer_decimal_below_used])), (a_t_writer_decimal_below_limbs, .inl (κ.2.1, 48, .inl t_writer_decimal_below_limbs)), (a_t_writer_decimal_sum, .inr (2, [.ref a_t_writer_decimal_sum_limbs, .int t_writer_decimal_sum_used])), (a_t_writer_decimal_sum_limbs, .inl (κ.2.1, 48, .inl t_writer_decimal_sum_limbs))]) (wr := [(a_t, .inr (0, [.ref a_t_reader, .ref a_t_writer])), (a_t_writer_decimal_above, .inr (2, [.ref a_t_writer_decimal_above_limbs, .int t_writer_decimal_above_used])), (a_t_writer_decimal_above_limbs, .inl (κ.2.1, 48, .inl t_writer_decimal_above_limbs))]) (wn := fun u => [(a_t, .inr (0, [.ref a_t_reader, .ref a_t_writer])), (a_t_writer, .inr (5, [.ref a_t_page, .ref a_t_writer_decimal, .ref a_t_writer_natural])), (a_t_page, .inr (3, [.ref a_t_page_units, .int u.1])), (a_t_page_units, .inl (κ.2.2.1, 1100, .inl u.2.1)), (a_t_writer_decimal, .inr (1, [.ref a_t_writer_decimal_digits, .int u.2.2.1, .int u.2.2.2.1, .ref a_t_writer_decimal_rest, .ref a_t_writer_decimal_scale, .ref a_t_writer_decimal_below, .ref a_t_writer_decimal_above, .ref a_t_writer_decimal_sum])), (a_t_writer_decimal_digits, .inl (κ.2.1, 48, .inl u.2.2.2.2.1)), (a_t_writer_decimal_rest, .inr (2, [.ref a_t_writer_decimal_rest_limbs, .int u.2.2.2.2.2.1])), (a_t_writer_decimal_rest_limbs, .inl (κ.2.1, 48, .inl u.2.2.2.2.2.2.1)), (a_t_writer_decimal_scale, .inr (2, [.ref a_t_writer_decimal_scale_limbs, .int u.2.2.2.2.2.2.2.1])), (a_t_writer_decimal_scale_limbs, .inl (κ.2.1, 48, .inl u.2.2.2.2.2.2.2.2.1)), (a_t_writer_decimal_below, .inr (2, [.ref a_t_writer_decimal_below_limbs, .int u.2.2.2.2.2.2.2.2.2.1])), (a_t_writer_decimal_below_limbs, .inl (κ.2.1, 48, .inl u.2.2.2.2.2.2.2.2.2.2.1)), (a_t_writer_decimal_above, .inr (2, [.ref a_t_writer_decimal_above_limbs, .int t_writer_decimal_above_used])), (a_t_writer_decimal_above_limbs, .inl (κ.2.1, 48, .inl t_writer_decimal_above_limbs)), (a_t_writer_decimal_sum, .inr (2, [.ref a_t_writer_decimal_sum_limbs, .int u.2.2.2.2.2.2.2.2.2.2.2.1])), (a_t_writer_decimal_sum_limbs, .inl (κ.2.1, 48, .inl u.2.2.2.2.2.2.2.2.2.2.2.2))]) (rest := []) (As := [.long x1, .int x4]) hF zn_D_139 (k_T_writePrecise κ X hX l a_t_writer a_t_page a_t_writer_decimal a_t_writer_natural a_t_page_units a_t_writer_decimal_digits a_t_writer_decimal_rest a_t_writer_decimal_scale a_t_writer_decimal_below a_t_writer_decimal_above a_t_writer_decimal_sum a_t_writer_decimal_rest_limbs a_t_writer_decimal_scale_limbs a_t_writer_decimal_below_limbs a_t_writer_decimal_sum_limbs H.size t_page_count t_page_units t_writer_decimal_count t_writer_decimal_point t_writer_decimal_digits t_writer_decimal_rest_used t_writer_decimal_rest_limbs t_writer_decimal_scale_used t_writer_decimal_scale_limbs t_writer_decimal_below_used t_writer_decimal_below_limbs t_writer_decimal_sum_used t_writer_decimal_sum_limbs x1 x4 o_129 ho_129) hX hXs hK hA hP hD hS ⟨by decide, by decide⟩ ⟨rfl, rfl, rfl, rfl, rfl, by decide⟩ ⟨rfl, fun _ => rfl, fun _ => rfl⟩ (ci := 5) rfl rfl rfl rfl hl.1 rfl (Nat.le_of_ble_eq_true rfl) ⟨Nat.zero_le _, Nat.zero_le _⟩ d_D_form_129 (fun u H locs hw hP hD hS => ?_)
        obtain ⟨u129_t_page_count, u129_t_page_units, u129_t_writer_decimal_count, u129_t_writer_decimal_point, u129_t_writer_decimal_digits, u129_t_writer_decimal_rest_used, u129_t_writer_decimal_rest_limbs, u129_t_writer_decimal_scale_used, u129_t_writer_decimal_scale_limbs, u129_t_writer_decimal_below_used, u129_t_writer_decimal_below_limbs, u129_t_writer_decimal_sum_used, u129_t_writer_decimal_sum_limbs⟩ := u
        have hP : zP κ [(a_t, .inr (0, [.ref a_t_reader, .ref a_t_writer])), (a_t_writer, .inr (5, [.ref a_t_page, .ref a_t_writer_decimal, .ref a_t_writer_natural])), (a_t_page, .inr (3, [.ref a_t_page_units, .int u129_t_page_count])), (a_t_page_units, .inl (κ.2.2.1, 1100, .inl u129_t_page_units)), (a_t_writer_decimal, .inr (1, [.ref a_t_writer_decimal_digits, .int u129_t_writer_decimal_count, .int u129_t_writer_decimal_point, .ref a_t_writer_decimal_rest, .ref a_t_writer_decimal_scale, .ref a_t_writer_decimal_below, .ref a_t_writer_decimal_above, .ref a_t_writer_decimal_sum])), (a_t_writer_decimal_digits, .inl (κ.2.1, 48, .inl u129_t_writer_decimal_digits)), (a_t_writer_decimal_rest, .inr (2, [.ref a_t_writer_decimal_rest_limbs, .int u129_t_writer_decimal_rest_used])), (a_t_writer_decimal_rest_limbs, .inl (κ.2.1, 48, .inl u129_t_writer_decimal_rest_limbs)), (a_t_writer_decimal_scale, .inr (2, [.ref a_t_writer_decimal_scale_limbs, .int u129_t_writer_decimal_scale_used])), (a_t_writer_decimal_scale_limbs, .inl (κ.2.1, 48, .inl u129_t_writer_decimal_scale_limbs)), (a_t_writer_decimal_below, .inr (2, [.ref a_t_writer_decimal_below_limbs, .int u129_t_writer_decimal_below_used])), (a_t_writer_decimal_below_limbs, .inl (κ.2.1, 48, .inl u129_t_writer_decimal_below_limbs)), (a_t_writer_decimal_above, .inr (2, [.ref a_t_writer_decimal_above_limbs, .int t_writer_decimal_above_used])), (a_t_writer_decimal_above_limbs, .inl (κ.2.1, 48, .inl t_writer_decimal_above_limbs)), (a_t_writer_decimal_sum, .inr (2, [.ref a_t_writer_decimal_sum_limbs, .int u129_t_writer_decimal_sum_used])), (a_t_writer_decimal_sum_limbs, .inl (κ.2.1, 48, .inl u129_t_writer_decimal_sum_limbs))] H := hP
        have hD : va_D A [(a_t, .inr (0, [.ref a_t_reader, .ref a_t_writer])), (a_t_writer, .inr (5, [.ref a_t_page, .ref a_t_writer_decimal, .ref a_t_writer_natural])), (a_t_page, .inr (3, [.ref a_t_page_units, .int u129_t_page_count])), (a_t_page_units, .inl (κ.2.2.1, 1100, .inl u129_t_page_units)), (a_t_writer_decimal, .inr (1, [.ref a_t_writer_decimal_digits, .int u129_t_writer_decimal_count, .int u129_t_writer_decimal_point, .ref a_t_writer_decimal_rest, .ref a_t_writer_decimal_scale, .ref a_t_writer_decimal_below, .ref a_t_writer_decimal_above, .ref a_t_writer_decimal_sum])), (a_t_writer_decimal_digits, .inl (κ.2.1, 48, .inl u129_t_writer_decimal_digits)), (a_t_writer_decimal_rest, .inr (2, [.ref a_t_writer_decimal_rest_limbs, .int u129_t_writer_decimal_rest_used])), (a_t_writer_decimal_rest_limbs, .inl (κ.2.1, 48, .inl u129_t_writer_decimal_rest_limbs)), (a_t_writer_decimal_scale, .inr (2, [.ref a_t_writer_decimal_scale_limbs, .int u129_t_writer_decimal_scale_used])), (a_t_writer_decimal_scale_limbs, .inl (κ.2.1, 48, .inl u129_t_writer_decimal_scale_limbs)), (a_t_writer_decimal_below, .inr (2, [.ref a_t_writer_decimal_below_limbs, .int u129_t_writer_decimal_below_used])), (a_t_writer_decimal_below_limbs, .inl (κ.2.1, 48, .inl u129_t_writer_decimal_below_limbs)), (a_t_writer_decimal_above, .inr (2, [.ref a_t_writer_decimal_above_limbs, .int t_writer_decimal_above_used])), (a_t_writer_decimal_above_limbs, .inl (κ.2.1, 48, .inl t_writer_decimal_above_limbs)), (a_t_writer_decimal_sum, .inr (2, [.ref a_t_writer_decimal_sum_limbs, .int u129_t_writer_decimal_sum_used])), (a_t_writer_decimal_sum_limbs, .inl (κ.2.1, 48, .inl u129_t_writer_decimal_sum_limbs))] := hD
        subst hw
        dsimp only at hf
        refine lv_goto (tgt := 145) hx hb d_D_form_132 (by decide) ?_
        exact b_145 u129_t_page_count u129_t_page_units u129_t_writer_decimal_count u129_t_writer_decimal_point u129_t_writer_decimal_digits u129_t_writer_decimal_rest_used u129_t_writer_decimal_rest_limbs u129_t_writer_decimal_scale_used u129_t_writer_decimal_scale_limbs u129_t_writer_decimal_below_used u129_t_writer_decimal_below_limbs t_writer_decimal_above_used t_writer_decimal_above_limbs u129_t_writer_decimal_sum_used u129_t_writer_decimal_sum_limbs H locs ls hf hP hD hS (lv_sub hl [0] rfl)
      · have hf := (zbr hf).2 c_109
        cases hf
  have hf := (zbr hf).2 c_1_2
  refine lv_tableOut (tgt := 135) hx hb d_D_form_1 (by have h_0 := zti c_1_0 (n := 0) (by decide); have h_1 := zti c_1_1 (n := 1) (by decide); have h_2 := zti c_1_2 (n := 2) (by decide); omega) (by decide) ?_
  cases hf
theorem d_D_unit_0 : decode c_D_unit 0 = .ok (.iload_n 1, 1) := by decide +kernel
theorem d_D_unit_1 : decode c_D_unit 1 = .ok (.ifCond .lt 14, 3) := by decide +kernel
theorem d_D_unit_4 : decode c_D_unit 4 = .ok (.iload_n 1, 1) := by decide +kernel
theorem d_D_unit_5 : decode c_D_unit 5 = .ok (.aload_n 0, 1) := by decide +kernel
theorem d_D_unit_6 : decode c_D_unit 6 = .ok (.getfield 19, 3) := by decide +kernel
theorem d_D_unit_9 : decode c_D_unit 9 = .ok (.invokevirtual 120, 3) := by decide +kernel
theorem d_D_unit_12 : decode c_D_unit 12 = .ok (.if_icmp .lt 13, 3) := by decide +kernel
theorem d_D_unit_15 : decode c_D_unit 15 = .ok (.new 144, 3) := by decide +kernel
theorem d_D_unit_18 : decode c_D_unit 18 = .ok (.dup, 1) := by decide +kernel
theorem d_D_unit_19 : decode c_D_unit 19 = .ok (.ldc 146, 2) := by decide +kernel
theorem d_D_unit_21 : decode c_D_unit 21 = .ok (.invokespecial 148, 3) := by decide +kernel
theorem d_D_unit_24 : decode c_D_unit 24 = .ok (.athrow, 1) := by decide +kernel
theorem d_D_unit_25 : decode c_D_unit 25 = .ok (.aload_n 0, 1) := by decide +kernel
theorem d_D_unit_26 : decode c_D_unit 26 = .ok (.getfield 19, 3) := by decide +kernel
theorem d_D_unit_29 : decode c_D_unit 29 = .ok (.iload_n 1, 1) := by decide +kernel
theorem d_D_unit_30 : decode c_D_unit 30 = .ok (.invokevirtual 149, 3) := by decide +kernel
theorem d_D_unit_33 : decode c_D_unit 33 = .ok (.ireturn, 1) := by decide +kernel
theorem zn_D_149 : zNV R_D 149 y_T_unitAt c_T_unitAt 2 (some .int) 1 := ⟨zco_T_unitAt, zin_T, zml_D_149, zim_T_unitAt, zse_T_T_unitAt, by decide +kernel⟩
set_option maxHeartbeats 4000000 in
set_option maxRecDepth 100000 in
theorem k_D_unit (κ : zC) (X : zXT) (hX : zX κ X) (l : Launch) (a_t a_t_reader a_t_writer a_t_page a_t_writer_decimal a_t_writer_natural a_t_page_units : Nat) (sz : Nat) (t_page_count : Int32) (t_page_units : Nat → Int32) (x1 : Int32) (out : Int32) (hf : f_D_unit t_page_count t_page_units x1 = some out) : zMet κ X l y_D_unit c_D_unit 2 (some .int) 2 42 [.ref a_t, .int x1] sz [(a_t, .inr (0, [.ref a_t_reader, .ref a_t_writer])), (a_t_writer, .inr (5, [.ref a_t_page, .ref a_t_writer_decimal, .ref a_t_writer_natural])), (a_t_page, .inr (3, [.ref a_t_page_units, .int t_page_count])), (a_t_page_units, .inl (κ.2.2.1, 1100, .inl t_page_units))] (zQi κ (fun (r : Int32) (_ : Unit) => r = out) (fun u => [(a_t, .inr (0, [.ref a_t_reader, .ref a_t_writer])), (a_t_writer, .inr (5, [.ref a_t_page, .ref a_t_writer_decimal, .ref a_t_writer_natural])), (a_t_page, .inr (3, [.ref a_t_page_units, .int t_page_count])), (a_t_page_units, .inl (κ.2.2.1, 1100, .inl t_page_units))])) := by
  refine zMet.ofI (by decide +kernel) (Nat.le_of_ble_eq_true rfl) ?_
  intro p e s m args below meth c ls A Q hF hK hP hD hA hXs hS hl hret
  obtain ⟨hx, hb, hml, hown, hts⟩ := id hF
  obtain ⟨H, hH⟩ : ∃ H, H = s.heap := ⟨_, rfl⟩
  obtain ⟨locs, hlo⟩ : ∃ z : List Loc, z = [] := ⟨_, rfl⟩
  replace hP : zP κ [(a_t, .inr (0, [.ref a_t_reader, .ref a_t_writer])), (a_t_writer, .inr (5, [.ref a_t_page, .ref a_t_writer_decimal, .ref a_t_writer_natural])), (a_t_page, .inr (3, [.ref a_t_page_units, .int t_page_count])), (a_t_page_units, .inl (κ.2.2.1, 1100, .inl t_page_units))] H := by rw [hH]; exact hP
  replace hS : va_S A s.heap H locs := by rw [hH, hlo]; exact hS
  suffices hgo : W p l e (zR 2 42) s m args below meth c H locs 0 0 Q (F0 m 0 ls []) by rw [hH, hlo] at hgo; exact hgo
  clear hH hlo
  replace hl : lv_has ls 2 [(0, .ref a_t), (1, .int x1)] := hl
  unfold f_D_unit at hf
  refine lv_iload_n hx hb d_D_unit_0 rfl (lv_at hl 1 rfl) ?_
  refine lv_if_lt (tgt := 15) hx hb d_D_unit_1 (by decide) (fun c_1 => ?_) (fun c_1 => ?_)
  · have hf := (zbr hf).1 c_1
    cases hf
  · have hf := (zbr hf).2 c_1
    refine lv_iload_n hx hb d_D_unit_4 rfl (lv_at hl 1 rfl) ?_
    refine lv_aload_n hx hb d_D_unit_5 rfl (lv_at hl 0 rfl) ?_
    refine va_get (C := R_D) (T := F_D) (N := 2) hx hb hts i_D hown hK hP 0 rfl rfl 1 (by decide) (hts _ zfl_D_19) (fun _ h9 => h9) rfl d_D_unit_6 ?_
    obtain ⟨o_9, ho_9, hf⟩ := zbd hf
    refine zVi (isC := [1, 2]) (isR := [0, 3]) (isN := [0, 2, 3, 1]) (wc := [(a_t_writer, .inr (5, [.ref a_t_page, .ref a_t_writer_decimal, .ref a_t_writer_natural])), (a_t_page, .inr (3, [.ref a_t_page_units, .int t_page_count]))]) (wr := [(a_t, .inr (0, [.ref a_t_reader, .ref a_t_writer])), (a_t_page_units, .inl (κ.2.2.1, 1100, .inl t_page_units))]) (wn := fun u => [(a_t, .inr (0, [.ref a_t_reader, .ref a_t_writer])), (a_t_writer, .inr (5, [.ref a_t_page, .ref a_t_writer_decimal, .ref a_t_writer_natural])), (a_t_page, .inr (3, [.ref a_t_page_units, .int t_page_count])), (a_t_page_units, .inl (κ.2.2.1, 1100, .inl t_page_units))]) (rest := [.int x1]) (As := []) hF zn_D_120 (k_T_length κ X hX l a_t_writer a_t_page a_t_writer_decimal a_t_writer_natural a_t_page_units H.size t_page_count o_9 ho_9) hX hXs hK hA hP hD hS ⟨by decide, by decide⟩ ⟨rfl, rfl, rfl, rfl, rfl, by decide⟩ ⟨rfl, fun _ => rfl, fun _ => rfl⟩ (ci := 5) rfl rfl rfl rfl hl.1 rfl (Nat.le_of_ble_eq_true rfl) ⟨Nat.zero_le _, Nat.zero_le _⟩ d_D_unit_9 (fun r_9 u H locs hw hP hD hS => ?_)
    subst hw
    refine lv_icmp_lt (tgt := 25) hx hb d_D_unit_12 (by decide) (fun c_12 => ?_) (fun c_12 => ?_)
    · have hf := (zbr hf).1 c_12
      refine lv_aload_n hx hb d_D_unit_25 rfl (lv_at hl 0 rfl) ?_
      refine va_get (C := R_D) (T := F_D) (N := 2) hx hb hts i_D hown hK hP 0 rfl rfl 1 (by decide) (hts _ zfl_D_19) (fun _ h9 => h9) rfl d_D_unit_26 ?_
      refine lv_iload_n hx hb d_D_unit_29 rfl (lv_at hl 1 rfl) ?_
      obtain ⟨o_30, ho_30, hf⟩ := zbd hf
      refine zVi (isC := [1, 2, 3]) (isR := [0]) (isN := [0, 1, 2, 3]) (wc := [(a_t_writer, .inr (5, [.ref a_t_page, .ref a_t_writer_decimal, .ref a_t_writer_natural])), (a_t_page, .inr (3, [.ref a_t_page_units, .int t_page_count])), (a_t_page_units, .inl (κ.2.2.1, 1100, .inl t_page_units))]) (wr := [(a_t, .inr (0, [.ref a_t_reader, .ref a_t_writer]))]) (wn := fun u => [(a_t, .inr (0, [.ref a_t_reader, .ref a_t_writer])), (a_t_writer, .inr (5, [.ref a_t_page, .ref a_t_writer_decimal, .ref a_t_writer_natural])), (a_t_page, .inr (3, [.ref a_t_page_units, .int t_page_count])), (a_t_page_units, .inl (κ.2.2.1, 1100, .inl t_page_units))]) (rest := []) (As := [.int x1]) hF zn_D_149 (k_T_unitAt κ X hX l a_t_writer a_t_page a_t_writer_decimal a_t_writer_natural a_t_page_units H.size t_page_count t_page_units x1 o_30 ho_30) hX hXs hK hA hP hD hS ⟨by decide, by decide⟩ ⟨rfl, rfl, rfl, rfl, rfl, by decide⟩ ⟨rfl, fun _ => rfl, fun _ => rfl⟩ (ci := 5) rfl rfl rfl rfl hl.1 rfl (Nat.le_of_ble_eq_true rfl) ⟨Nat.zero_le _, Nat.zero_le _⟩ d_D_unit_30 (fun r_30 u H locs hw hP hD hS => ?_)
      subst hw
      exact hret (r_30) () H locs ls _ d_D_unit_33 hP hD hS (Option.some.inj hf)
    · have hf := (zbr hf).2 c_12
      cases hf
