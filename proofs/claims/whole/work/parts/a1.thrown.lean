def zEx : Nat → String
  | 1 => "java/lang/IllegalArgumentException"
  | 2 => "java/lang/IllegalStateException"
  | _ => "java/lang/IndexOutOfBoundsException"
theorem ow_1 : ∀ a ∈ Jvm.Bundle.ownAtoms R_D 27 "java/lang/IllegalArgumentException" ["java/lang/RuntimeException", "java/lang/Exception"], a ∈ T0 ∨ a ∈ zheL ∨ a ∈ zowL "java/lang/IllegalArgumentException" := by decide +kernel
theorem ow_2 : ∀ a ∈ Jvm.Bundle.ownAtoms R_D 38 "java/lang/IllegalStateException" ["java/lang/RuntimeException", "java/lang/Exception"], a ∈ T0 ∨ a ∈ zheL ∨ a ∈ zowL "java/lang/IllegalStateException" := by decide +kernel
theorem ow_3 : ∀ a ∈ Jvm.Bundle.ownAtoms R_D 148 "java/lang/IndexOutOfBoundsException" ["java/lang/RuntimeException", "java/lang/Exception"], a ∈ T0 ∨ a ∈ zheL ∨ a ∈ zowL "java/lang/IndexOutOfBoundsException" := by decide +kernel
theorem k0_R_hasRoomFor (κ : zC) (X : zXT) (hX : zX κ X) (l : Launch) (a_t a_t_units a_t_numerator a_t_denominator : Nat) (sz : Nat) (t_count : Int32) (t_at : Int32) (t_end : Int32) (t_counting : Int32) (t_power : Int32) (x1 : Int32) (out : Int32) (hf : f_R_hasRoomFor t_count t_at t_end t_counting t_power x1 = some out) : zMet0 κ X l y_R_hasRoomFor c_R_hasRoomFor 2 (some .boolean) 0 0 [.ref a_t, .int x1] sz [(a_t, .inr (4, [.ref a_t_units, .int t_count, .int t_at, .int t_end, .ref a_t_numerator, .ref a_t_denominator, .int t_counting, .int t_power]))] out := by
  refine zMet0.of (by decide +kernel) (Nat.le_of_ble_eq_true rfl) ?_
  intro p e s m args below meth c ls A Q hF hK hP hD hA hXs hS hl hret
  obtain ⟨hx, hb, hml, hown, hts⟩ := id hF
  replace hl : lv_has ls 2 [(0, .ref a_t), (1, .int x1)] := hl
  unfold f_R_hasRoomFor at hf
  refine lv_iload_n hx hb d_R_hasRoomFor_0 rfl (lv_at hl 1 rfl) ?_
  refine lv_sipush (v := 600) hx hb d_R_hasRoomFor_1 (by decide) ?_
  refine lv_aload_n hx hb d_R_hasRoomFor_4 rfl (lv_at hl 0 rfl) ?_
  refine va_get (C := R_R) (T := F_R) (N := 8) hx hb hts i_R hown hK hP 0 rfl rfl 1 (by decide) (hts _ zfl_R_13) (fun _ h9 => h9) rfl d_R_hasRoomFor_5 ?_
  refine lv_isub hx hb d_R_hasRoomFor_8 ?_
  refine lv_icmp_gt (tgt := 16) hx hb d_R_hasRoomFor_9 (by decide) (fun c_9 => ?_) (fun c_9 => ?_)
  · have hf := (zbr hf).1 c_9
    refine lv_iconst (v := 0) hx hb d_R_hasRoomFor_16 (by decide) ?_
    exact hret ((0 : Int32)) ls _ d_R_hasRoomFor_17 (by decide) (Option.some.inj hf)
  · have hf := (zbr hf).2 c_9
    refine lv_iconst (v := 1) hx hb d_R_hasRoomFor_12 (by decide) ?_
    refine lv_goto (tgt := 17) hx hb d_R_hasRoomFor_13 (by decide) ?_
    exact hret ((1 : Int32)) ls _ d_R_hasRoomFor_17 (by decide) (Option.some.inj hf)
theorem k0_P_length (κ : zC) (X : zXT) (hX : zX κ X) (l : Launch) (a_t a_t_units : Nat) (sz : Nat) (t_count : Int32) (out : Int32) (hf : f_P_length t_count = some out) : zMet0 κ X l y_P_length c_P_length 1 (some .int) 0 0 [.ref a_t] sz [(a_t, .inr (3, [.ref a_t_units, .int t_count]))] out := by
  refine zMet0.of (by decide +kernel) (Nat.le_of_ble_eq_true rfl) ?_
  intro p e s m args below meth c ls A Q hF hK hP hD hA hXs hS hl hret
  obtain ⟨hx, hb, hml, hown, hts⟩ := id hF
  replace hl : lv_has ls 1 [(0, .ref a_t)] := hl
  unfold f_P_length at hf
  refine lv_aload_n hx hb d_P_length_0 rfl (lv_at hl 0 rfl) ?_
  refine va_get (C := R_P) (T := F_P) (N := 2) hx hb hts i_P hown hK hP 0 rfl rfl 1 (by decide) (hts _ zfl_P_13) (fun _ h9 => h9) rfl d_P_length_1 ?_
  exact hret (t_count) ls _ d_P_length_4 (by rfl) (Option.some.inj hf)
theorem k0_T_length (κ : zC) (X : zXT) (hX : zX κ X) (l : Launch) (a_t a_t_page a_t_decimal a_t_natural a_t_page_units : Nat) (sz : Nat) (t_page_count : Int32) (out : Int32) (hf : f_T_length t_page_count = some out) : zMet0 κ X l y_T_length c_T_length 1 (some .int) 1 20 [.ref a_t] sz [(a_t, .inr (5, [.ref a_t_page, .ref a_t_decimal, .ref a_t_natural])), (a_t_page, .inr (3, [.ref a_t_page_units, .int t_page_count]))] out := by
  refine zMet0.of (by decide +kernel) (Nat.le_of_ble_eq_true rfl) ?_
  intro p e s m args below meth c ls A Q hF hK hP hD hA hXs hS hl hret
  obtain ⟨hx, hb, hml, hown, hts⟩ := id hF
  replace hl : lv_has ls 1 [(0, .ref a_t)] := hl
  unfold f_T_length at hf
  refine lv_aload_n hx hb d_T_length_0 rfl (lv_at hl 0 rfl) ?_
  refine va_get (C := R_T) (T := F_T) (N := 3) hx hb hts i_T hown hK hP 0 rfl rfl 0 (by decide) (hts _ zfl_T_10) (fun _ h9 => h9) rfl d_T_length_1 ?_
  obtain ⟨r_4, ho_4, hf⟩ := zbd hf
  refine zV0 (isC := [1]) (wc := [(a_t_page, .inr (3, [.ref a_t_page_units, .int t_page_count]))]) (rest := []) (As := []) hF zn_T_30 (k0_P_length κ X hX l a_t_page a_t_page_units s.heap.size t_page_count r_4 ho_4) hX hXs hK hA hP hD hS ⟨by decide, by decide⟩ ⟨rfl, rfl, rfl⟩ (ci := 3) rfl rfl rfl rfl hl.1 rfl (Nat.le_of_ble_eq_true rfl) ⟨Nat.zero_le _, Nat.zero_le _⟩ d_T_length_4 ?_
  exact hret (r_4) ls _ d_T_length_7 (by rfl) (Option.some.inj hf)
noncomputable def t_D_put (t_reader_count : Int32) (t_reader_at : Int32) (t_reader_end : Int32) (t_reader_counting : Int32) (t_reader_power : Int32) (t_reader_units : Nat → Int32) (x1 : Int64) (x3 : Int32) : Option Nat :=
  if x3 < 1 then (some 1) else (if x3 ≤ 4 then ((f_R_hasRoomFor t_reader_count t_reader_at t_reader_end t_reader_counting t_reader_power x3).bind fun r_25 => (if r_25 = 0 then (some 2) else (none))) else (some 1))
set_option maxHeartbeats 4000000 in
set_option maxRecDepth 100000 in
theorem kt_D_put (κ : zC) (X : zXT) (hX : zX κ X) (hXE : zXE X) (l : Launch) (hfl : l.flags = flags0) (a_t a_t_reader a_t_writer a_t_reader_units a_t_reader_numerator a_t_reader_denominator : Nat) (sz : Nat) (t_reader_count : Int32) (t_reader_at : Int32) (t_reader_end : Int32) (t_reader_counting : Int32) (t_reader_power : Int32) (t_reader_units : Nat → Int32) (x1 : Int64) (x3 : Int32) (k : Nat) (hf : t_D_put t_reader_count t_reader_at t_reader_end t_reader_counting t_reader_power t_reader_units x1 x3 = some k) : zMetT κ X l y_D_put c_D_put 5 (some .int) 6 82 [.ref a_t, .long x1, .int x3] sz [(a_t, .inr (0, [.ref a_t_reader, .ref a_t_writer])), (a_t_reader, .inr (4, [.ref a_t_reader_units, .int t_reader_count, .int t_reader_at, .int t_reader_end, .ref a_t_reader_numerator, .ref a_t_reader_denominator, .int t_reader_counting, .int t_reader_power])), (a_t_reader_units, .inl (κ.2.1, 600, .inl t_reader_units))] (zEx k) := by
  refine zMetT.of hfl (by decide +kernel) (Nat.le_of_ble_eq_true rfl) ?_
  intro p e s m args below meth c ls A hF htr hne hlk hK hP hD hA hXs hl
  obtain ⟨hx, hb, hml, hown, hts⟩ := id hF
  have hS : va_S A s.heap s.heap [] := va_S.rf
  replace hl : lv_has ls 5 [(0, .ref a_t), (1, .long x1), (3, .int x3)] := hl
  unfold t_D_put at hf
  refine lv_iload_n hx hb d_D_put_0 rfl (lv_at hl 2 rfl) ?_
  refine lv_iconst (v := 1) hx hb d_D_put_1 (by decide) ?_
  refine lv_icmp_lt (tgt := 10) hx hb d_D_put_2 (by decide) (fun c_2 => ?_) (fun c_2 => ?_)
  · have hf := (zbr hf).1 c_2
    obtain rfl := Option.some.inj hf
    show W p l e _ s m args below meth c s.heap [] 0 0 (zTQ "java/lang/IllegalArgumentException" below s) _
    exact zthrow (names := ["java/lang/RuntimeException", "java/lang/Exception"]) (tx := "n is not 1 .. 4") hXE hXs hF htr hne hlk zcl_D_23 zis_JA zin_JA (by decide) ow_1 (by decide +kernel) (by decide +kernel) hl.1 ⟨by decide, by decide, by decide, by decide⟩ d_D_put_10 d_D_put_13 d_D_put_14 d_D_put_16 d_D_put_19
  · have hf := (zbr hf).2 c_2
    refine lv_iload_n hx hb d_D_put_5 rfl (lv_at hl 2 rfl) ?_
    refine lv_iconst (v := 4) hx hb d_D_put_6 (by decide) ?_
    refine lv_icmp_le (tgt := 20) hx hb d_D_put_7 (by decide) (fun c_7 => ?_) (fun c_7 => ?_)
    · have hf := (zbr hf).1 c_7
      refine lv_aload_n hx hb d_D_put_20 rfl (lv_at hl 0 rfl) ?_
      refine va_get (C := R_D) (T := F_D) (N := 2) hx hb hts i_D hown hK hP 0 rfl rfl 0 (by decide) (hts _ zfl_D_10) (fun _ h9 => h9) rfl d_D_put_21 ?_
      refine lv_iload_n hx hb d_D_put_24 rfl (lv_at hl 2 rfl) ?_
      obtain ⟨r_25, ho_25, hf⟩ := zbd hf
      refine zV0 (isC := [1]) (wc := [(a_t_reader, .inr (4, [.ref a_t_reader_units, .int t_reader_count, .int t_reader_at, .int t_reader_end, .ref a_t_reader_numerator, .ref a_t_reader_denominator, .int t_reader_counting, .int t_reader_power]))]) (rest := []) (As := [.int x3]) hF zn_D_30 (k0_R_hasRoomFor κ X hX l a_t_reader a_t_reader_units a_t_reader_numerator a_t_reader_denominator s.heap.size t_reader_count t_reader_at t_reader_end t_reader_counting t_reader_power x3 r_25 ho_25) hX hXs hK hA hP hD hS ⟨by decide, by decide⟩ ⟨rfl, rfl, rfl⟩ (ci := 4) rfl rfl rfl rfl hl.1 rfl (Nat.le_of_ble_eq_true rfl) ⟨Nat.zero_le _, Nat.zero_le _⟩ d_D_put_25 ?_
      refine lv_if_ne (tgt := 41) hx hb d_D_put_28 (by decide) (fun c_28 => ?_) (fun c_28 => ?_)
      · have hf := (zbr hf).2 c_28
        cases hf
      · have hf := (zbr hf).1 c_28
        obtain rfl := Option.some.inj hf
        show W p l e _ s m args below meth c s.heap [] 0 0 (zTQ "java/lang/IllegalStateException" below s) _
        exact zthrow (names := ["java/lang/RuntimeException", "java/lang/Exception"]) (tx := "the text would have more than 600 units") hXE hXs hF htr hne hlk zcl_D_34 zis_JI zin_JI (by decide) ow_2 (by decide +kernel) (by decide +kernel) hl.1 ⟨by decide, by decide, by decide, by decide⟩ d_D_put_31 d_D_put_34 d_D_put_35 d_D_put_37 d_D_put_40
    · have hf := (zbr hf).2 c_7
      obtain rfl := Option.some.inj hf
      show W p l e _ s m args below meth c s.heap [] 0 0 (zTQ "java/lang/IllegalArgumentException" below s) _
      exact zthrow (names := ["java/lang/RuntimeException", "java/lang/Exception"]) (tx := "n is not 1 .. 4") hXE hXs hF htr hne hlk zcl_D_23 zis_JA zin_JA (by decide) ow_1 (by decide +kernel) (by decide +kernel) hl.1 ⟨by decide, by decide, by decide, by decide⟩ d_D_put_10 d_D_put_13 d_D_put_14 d_D_put_16 d_D_put_19
noncomputable def t_D_reckon (x1 : Int64) (x3 : Int64) (x5 : Int32) : Option Nat :=
  (if x5 = 0 then (none) else (if x5 = 1 then (none) else (if x5 = 2 then (none) else (if x5 = 3 then (none) else (if x5 = 4 then (none) else (some 1))))))
set_option maxHeartbeats 4000000 in
set_option maxRecDepth 100000 in
theorem kt_D_reckon (κ : zC) (X : zXT) (hX : zX κ X) (hXE : zXE X) (l : Launch) (hfl : l.flags = flags0) (a_t a_t_reader a_t_writer : Nat) (sz : Nat) (x1 : Int64) (x3 : Int64) (x5 : Int32) (k : Nat) (hf : t_D_reckon x1 x3 x5 = some k) : zMetT κ X l y_D_reckon c_D_reckon 6 (some .long) 6 82 [.ref a_t, .long x1, .long x3, .int x5] sz [(a_t, .inr (0, [.ref a_t_reader, .ref a_t_writer]))] (zEx k) := by
  refine zMetT.of hfl (by decide +kernel) (Nat.le_of_ble_eq_true rfl) ?_
  intro p e s m args below meth c ls A hF htr hne hlk hK hP hD hA hXs hl
  obtain ⟨hx, hb, hml, hown, hts⟩ := id hF
  have hS : va_S A s.heap s.heap [] := va_S.rf
  replace hl : lv_has ls 6 [(0, .ref a_t), (1, .long x1), (3, .long x3), (5, .int x5)] := hl
  unfold t_D_reckon at hf
  refine lv_iload hx hb d_D_reckon_0 (lv_at hl 3 rfl) ?_
  by_cases c_2_0 : x5 = 0
  · have hf := (zbr hf).1 c_2_0
    rw [c_2_0]
    refine lv_tableIn (tgt := 36) hx hb d_D_reckon_2 (by decide) (by decide) (off := 34) (by decide) (by decide) ?_
    cases hf
  have hf := (zbr hf).2 c_2_0
  by_cases c_2_1 : x5 = 1
  · have hf := (zbr hf).1 c_2_1
    rw [c_2_1]
    refine lv_tableIn (tgt := 42) hx hb d_D_reckon_2 (by decide) (by decide) (off := 40) (by decide) (by decide) ?_
    cases hf
  have hf := (zbr hf).2 c_2_1
  by_cases c_2_2 : x5 = 2
  · have hf := (zbr hf).1 c_2_2
    rw [c_2_2]
    refine lv_tableIn (tgt := 48) hx hb d_D_reckon_2 (by decide) (by decide) (off := 46) (by decide) (by decide) ?_
    cases hf
  have hf := (zbr hf).2 c_2_2
  by_cases c_2_3 : x5 = 3
  · have hf := (zbr hf).1 c_2_3
    rw [c_2_3]
    refine lv_tableIn (tgt := 54) hx hb d_D_reckon_2 (by decide) (by decide) (off := 52) (by decide) (by decide) ?_
    cases hf
  have hf := (zbr hf).2 c_2_3
  by_cases c_2_4 : x5 = 4
  · have hf := (zbr hf).1 c_2_4
    rw [c_2_4]
    refine lv_tableIn (tgt := 60) hx hb d_D_reckon_2 (by decide) (by decide) (off := 58) (by decide) (by decide) ?_
    cases hf
  have hf := (zbr hf).2 c_2_4
  refine lv_tableOut (tgt := 66) hx hb d_D_reckon_2 (by have h_0 := zti c_2_0 (n := 0) (by decide); have h_1 := zti c_2_1 (n := 1) (by decide); have h_2 := zti c_2_2 (n := 2) (by decide); have h_3 := zti c_2_3 (n := 3) (by decide); have h_4 := zti c_2_4 (n := 4) (by decide); omega) (by decide) ?_
  obtain rfl := Option.some.inj hf
  show W p l e _ s m args below meth c s.heap [] 0 0 (zTQ "java/lang/IllegalArgumentException" below s) _
  exact zthrow (names := ["java/lang/RuntimeException", "java/lang/Exception"]) (tx := "what is not 0 .. 4") hXE hXs hF htr hne hlk zcl_D_23 zis_JA zin_JA (by decide) ow_1 (by decide +kernel) (by decide +kernel) hl.1 ⟨by decide, by decide, by decide, by decide⟩ d_D_reckon_66 d_D_reckon_69 d_D_reckon_70 d_D_reckon_72 d_D_reckon_75
noncomputable def t_D_turn (x1 : Int64) (x3 : Int32) : Option Nat :=
  if x3 < 0 then (some 1) else (if x3 ≤ 6 then (none) else (some 1))
set_option maxHeartbeats 4000000 in
set_option maxRecDepth 100000 in
theorem kt_D_turn (κ : zC) (X : zXT) (hX : zX κ X) (hXE : zXE X) (l : Launch) (hfl : l.flags = flags0) (a_t a_t_reader a_t_writer : Nat) (sz : Nat) (x1 : Int64) (x3 : Int32) (k : Nat) (hf : t_D_turn x1 x3 = some k) : zMetT κ X l y_D_turn c_D_turn 4 (some .long) 6 82 [.ref a_t, .long x1, .int x3] sz [(a_t, .inr (0, [.ref a_t_reader, .ref a_t_writer]))] (zEx k) := by
  refine zMetT.of hfl (by decide +kernel) (Nat.le_of_ble_eq_true rfl) ?_
  intro p e s m args below meth c ls A hF htr hne hlk hK hP hD hA hXs hl
  obtain ⟨hx, hb, hml, hown, hts⟩ := id hF
  have hS : va_S A s.heap s.heap [] := va_S.rf
  replace hl : lv_has ls 4 [(0, .ref a_t), (1, .long x1), (3, .int x3)] := hl
  unfold t_D_turn at hf
  refine lv_iload_n hx hb d_D_turn_0 rfl (lv_at hl 2 rfl) ?_
  refine lv_if_lt (tgt := 10) hx hb d_D_turn_1 (by decide) (fun c_1 => ?_) (fun c_1 => ?_)
  · have hf := (zbr hf).1 c_1
    obtain rfl := Option.some.inj hf
    show W p l e _ s m args below meth c s.heap [] 0 0 (zTQ "java/lang/IllegalArgumentException" below s) _
    exact zthrow (names := ["java/lang/RuntimeException", "java/lang/Exception"]) (tx := "what is not 0 .. 6") hXE hXs hF htr hne hlk zcl_D_23 zis_JA zin_JA (by decide) ow_1 (by decide +kernel) (by decide +kernel) hl.1 ⟨by decide, by decide, by decide, by decide⟩ d_D_turn_10 d_D_turn_13 d_D_turn_14 d_D_turn_16 d_D_turn_19
  · have hf := (zbr hf).2 c_1
    refine lv_iload_n hx hb d_D_turn_4 rfl (lv_at hl 2 rfl) ?_
    refine lv_bipush (v := 6) hx hb d_D_turn_5 (by decide) ?_
    refine lv_icmp_le (tgt := 20) hx hb d_D_turn_7 (by decide) (fun c_7 => ?_) (fun c_7 => ?_)
    · have hf := (zbr hf).1 c_7
      cases hf
    · have hf := (zbr hf).2 c_7
      obtain rfl := Option.some.inj hf
      show W p l e _ s m args below meth c s.heap [] 0 0 (zTQ "java/lang/IllegalArgumentException" below s) _
      exact zthrow (names := ["java/lang/RuntimeException", "java/lang/Exception"]) (tx := "what is not 0 .. 6") hXE hXs hF htr hne hlk zcl_D_23 zis_JA zin_JA (by decide) ow_1 (by decide +kernel) (by decide +kernel) hl.1 ⟨by decide, by decide, by decide, by decide⟩ d_D_turn_10 d_D_turn_13 d_D_turn_14 d_D_turn_16 d_D_turn_19
noncomputable def t_D_whole (x1 : Int64) (x3 : Int32) : Option Nat :=
  if x3 < 0 then (some 1) else (if x3 ≤ 2 then (none) else (some 1))
set_option maxHeartbeats 4000000 in
set_option maxRecDepth 100000 in
theorem kt_D_whole (κ : zC) (X : zXT) (hX : zX κ X) (hXE : zXE X) (l : Launch) (hfl : l.flags = flags0) (a_t a_t_reader a_t_writer : Nat) (sz : Nat) (x1 : Int64) (x3 : Int32) (k : Nat) (hf : t_D_whole x1 x3 = some k) : zMetT κ X l y_D_whole c_D_whole 6 (some .long) 6 82 [.ref a_t, .long x1, .int x3] sz [(a_t, .inr (0, [.ref a_t_reader, .ref a_t_writer]))] (zEx k) := by
  refine zMetT.of hfl (by decide +kernel) (Nat.le_of_ble_eq_true rfl) ?_
  intro p e s m args below meth c ls A hF htr hne hlk hK hP hD hA hXs hl
  obtain ⟨hx, hb, hml, hown, hts⟩ := id hF
  have hS : va_S A s.heap s.heap [] := va_S.rf
  replace hl : lv_has ls 6 [(0, .ref a_t), (1, .long x1), (3, .int x3)] := hl
  unfold t_D_whole at hf
  refine lv_iload_n hx hb d_D_whole_0 rfl (lv_at hl 2 rfl) ?_
  refine lv_if_lt (tgt := 9) hx hb d_D_whole_1 (by decide) (fun c_1 => ?_) (fun c_1 => ?_)
  · have hf := (zbr hf).1 c_1
    obtain rfl := Option.some.inj hf
    show W p l e _ s m args below meth c s.heap [] 0 0 (zTQ "java/lang/IllegalArgumentException" below s) _
    exact zthrow (names := ["java/lang/RuntimeException", "java/lang/Exception"]) (tx := "what is not 0 .. 2") hXE hXs hF htr hne hlk zcl_D_23 zis_JA zin_JA (by decide) ow_1 (by decide +kernel) (by decide +kernel) hl.1 ⟨by decide, by decide, by decide, by decide⟩ d_D_whole_9 d_D_whole_12 d_D_whole_13 d_D_whole_15 d_D_whole_18
  · have hf := (zbr hf).2 c_1
    refine lv_iload_n hx hb d_D_whole_4 rfl (lv_at hl 2 rfl) ?_
    refine lv_iconst (v := 2) hx hb d_D_whole_5 (by decide) ?_
    refine lv_icmp_le (tgt := 19) hx hb d_D_whole_6 (by decide) (fun c_6 => ?_) (fun c_6 => ?_)
    · have hf := (zbr hf).1 c_6
      cases hf
    · have hf := (zbr hf).2 c_6
      obtain rfl := Option.some.inj hf
      show W p l e _ s m args below meth c s.heap [] 0 0 (zTQ "java/lang/IllegalArgumentException" below s) _
      exact zthrow (names := ["java/lang/RuntimeException", "java/lang/Exception"]) (tx := "what is not 0 .. 2") hXE hXs hF htr hne hlk zcl_D_23 zis_JA zin_JA (by decide) ow_1 (by decide +kernel) (by decide +kernel) hl.1 ⟨by decide, by decide, by decide, by decide⟩ d_D_whole_9 d_D_whole_12 d_D_whole_13 d_D_whole_15 d_D_whole_18
noncomputable def t_D_radix (t_page_count : Int32) (t_page_units : Nat → Int32) (t_writer_natural_used : Int32) (t_writer_natural_limbs : Nat → Int32) (x1 : Int64) (x3 : Int32) : Option Nat :=
  if x3 < 2 then (some 1) else (if 36 < x3 then (some 1) else (if x3 = 10 then (some 1) else (none)))
set_option maxHeartbeats 4000000 in
set_option maxRecDepth 100000 in
theorem kt_D_radix (κ : zC) (X : zXT) (hX : zX κ X) (hXE : zXE X) (l : Launch) (hfl : l.flags = flags0) (a_t a_t_reader a_t_writer a_t_page a_t_writer_decimal a_t_writer_natural a_t_page_units a_t_writer_natural_limbs : Nat) (sz : Nat) (t_page_count : Int32) (t_page_units : Nat → Int32) (t_writer_natural_used : Int32) (t_writer_natural_limbs : Nat → Int32) (x1 : Int64) (x3 : Int32) (k : Nat) (hf : t_D_radix t_page_count t_page_units t_writer_natural_used t_writer_natural_limbs x1 x3 = some k) : zMetT κ X l y_D_radix c_D_radix 4 (some .int) 6 82 [.ref a_t, .long x1, .int x3] sz [(a_t, .inr (0, [.ref a_t_reader, .ref a_t_writer])), (a_t_writer, .inr (5, [.ref a_t_page, .ref a_t_writer_decimal, .ref a_t_writer_natural])), (a_t_page, .inr (3, [.ref a_t_page_units, .int t_page_count])), (a_t_page_units, .inl (κ.2.2.1, 1100, .inl t_page_units)), (a_t_writer_natural, .inr (2, [.ref a_t_writer_natural_limbs, .int t_writer_natural_used])), (a_t_writer_natural_limbs, .inl (κ.2.1, 48, .inl t_writer_natural_limbs))] (zEx k) := by
  refine zMetT.of hfl (by decide +kernel) (Nat.le_of_ble_eq_true rfl) ?_
  intro p e s m args below meth c ls A hF htr hne hlk hK hP hD hA hXs hl
  obtain ⟨hx, hb, hml, hown, hts⟩ := id hF
  have hS : va_S A s.heap s.heap [] := va_S.rf
  replace hl : lv_has ls 4 [(0, .ref a_t), (1, .long x1), (3, .int x3)] := hl
  unfold t_D_radix at hf
  refine lv_iload_n hx hb d_D_radix_0 rfl (lv_at hl 2 rfl) ?_
  refine lv_iconst (v := 2) hx hb d_D_radix_1 (by decide) ?_
  refine lv_icmp_lt (tgt := 17) hx hb d_D_radix_2 (by decide) (fun c_2 => ?_) (fun c_2 => ?_)
  · have hf := (zbr hf).1 c_2
    obtain rfl := Option.some.inj hf
    show W p l e _ s m args below meth c s.heap [] 0 0 (zTQ "java/lang/IllegalArgumentException" below s) _
    exact zthrow (names := ["java/lang/RuntimeException", "java/lang/Exception"]) (tx := "the radix is not 2 .. 36, or it is 10") hXE hXs hF htr hne hlk zcl_D_23 zis_JA zin_JA (by decide) ow_1 (by decide +kernel) (by decide +kernel) hl.1 ⟨by decide, by decide, by decide, by decide⟩ d_D_radix_17 d_D_radix_20 d_D_radix_21 d_D_radix_23 d_D_radix_26
  · have hf := (zbr hf).2 c_2
    refine lv_iload_n hx hb d_D_radix_5 rfl (lv_at hl 2 rfl) ?_
    refine lv_bipush (v := 36) hx hb d_D_radix_6 (by decide) ?_
    refine lv_icmp_gt (tgt := 17) hx hb d_D_radix_8 (by decide) (fun c_8 => ?_) (fun c_8 => ?_)
    · have hf := (zbr hf).1 c_8
      obtain rfl := Option.some.inj hf
      show W p l e _ s m args below meth c s.heap [] 0 0 (zTQ "java/lang/IllegalArgumentException" below s) _
      exact zthrow (names := ["java/lang/RuntimeException", "java/lang/Exception"]) (tx := "the radix is not 2 .. 36, or it is 10") hXE hXs hF htr hne hlk zcl_D_23 zis_JA zin_JA (by decide) ow_1 (by decide +kernel) (by decide +kernel) hl.1 ⟨by decide, by decide, by decide, by decide⟩ d_D_radix_17 d_D_radix_20 d_D_radix_21 d_D_radix_23 d_D_radix_26
    · have hf := (zbr hf).2 c_8
      refine lv_iload_n hx hb d_D_radix_11 rfl (lv_at hl 2 rfl) ?_
      refine lv_bipush (v := 10) hx hb d_D_radix_12 (by decide) ?_
      refine lv_icmp_ne (tgt := 27) hx hb d_D_radix_14 (by decide) (fun c_14 => ?_) (fun c_14 => ?_)
      · have hf := (zbr hf).2 c_14
        cases hf
      · have hf := (zbr hf).1 c_14
        obtain rfl := Option.some.inj hf
        show W p l e _ s m args below meth c s.heap [] 0 0 (zTQ "java/lang/IllegalArgumentException" below s) _
        exact zthrow (names := ["java/lang/RuntimeException", "java/lang/Exception"]) (tx := "the radix is not 2 .. 36, or it is 10") hXE hXs hF htr hne hlk zcl_D_23 zis_JA zin_JA (by decide) ow_1 (by decide +kernel) (by decide +kernel) hl.1 ⟨by decide, by decide, by decide, by decide⟩ d_D_radix_17 d_D_radix_20 d_D_radix_21 d_D_radix_23 d_D_radix_26
noncomputable def t_D_form (t_page_count : Int32) (t_page_units : Nat → Int32) (t_writer_decimal_count : Int32) (t_writer_decimal_point : Int32) (t_writer_decimal_digits : Nat → Int32) (t_writer_decimal_rest_used : Int32) (t_writer_decimal_rest_limbs : Nat → Int32) (t_writer_decimal_scale_used : Int32) (t_writer_decimal_scale_limbs : Nat → Int32) (t_writer_decimal_below_used : Int32) (t_writer_decimal_below_limbs : Nat → Int32) (t_writer_decimal_above_used : Int32) (t_writer_decimal_above_limbs : Nat → Int32) (t_writer_decimal_sum_used : Int32) (t_writer_decimal_sum_limbs : Nat → Int32) (x1 : Int64) (x3 : Int32) (x4 : Int32) : Option Nat :=
  (if x3 = 0 then (if x4 < 0 then (some 1) else (if x4 ≤ 20 then (none) else (some 1))) else (if x3 = 1 then (if x4 < (-1) then (some 1) else (if x4 ≤ 20 then (none) else (some 1))) else (if x3 = 2 then (if x4 < 1 then (some 1) else (if x4 ≤ 21 then (none) else (some 1))) else (some 1))))
set_option maxHeartbeats 4000000 in
set_option maxRecDepth 100000 in
theorem kt_D_form (κ : zC) (X : zXT) (hX : zX κ X) (hXE : zXE X) (l : Launch) (hfl : l.flags = flags0) (a_t a_t_reader a_t_writer a_t_page a_t_writer_decimal a_t_writer_natural a_t_page_units a_t_writer_decimal_digits a_t_writer_decimal_rest a_t_writer_decimal_scale a_t_writer_decimal_below a_t_writer_decimal_above a_t_writer_decimal_sum a_t_writer_decimal_rest_limbs a_t_writer_decimal_scale_limbs a_t_writer_decimal_below_limbs a_t_writer_decimal_above_limbs a_t_writer_decimal_sum_limbs : Nat) (sz : Nat) (t_page_count : Int32) (t_page_units : Nat → Int32) (t_writer_decimal_count : Int32) (t_writer_decimal_point : Int32) (t_writer_decimal_digits : Nat → Int32) (t_writer_decimal_rest_used : Int32) (t_writer_decimal_rest_limbs : Nat → Int32) (t_writer_decimal_scale_used : Int32) (t_writer_decimal_scale_limbs : Nat → Int32) (t_writer_decimal_below_used : Int32) (t_writer_decimal_below_limbs : Nat → Int32) (t_writer_decimal_above_used : Int32) (t_writer_decimal_above_limbs : Nat → Int32) (t_writer_decimal_sum_used : Int32) (t_writer_decimal_sum_limbs : Nat → Int32) (x1 : Int64) (x3 : Int32) (x4 : Int32) (k : Nat) (hf : t_D_form t_page_count t_page_units t_writer_decimal_count t_writer_decimal_point t_writer_decimal_digits t_writer_decimal_rest_used t_writer_decimal_rest_limbs t_writer_decimal_scale_used t_writer_decimal_scale_limbs t_writer_decimal_below_used t_writer_decimal_below_limbs t_writer_decimal_above_used t_writer_decimal_above_limbs t_writer_decimal_sum_used t_writer_decimal_sum_limbs x1 x3 x4 = some k) : zMetT κ X l y_D_form c_D_form 5 (some .int) 6 82 [.ref a_t, .long x1, .int x3, .int x4] sz [(a_t, .inr (0, [.ref a_t_reader, .ref a_t_writer])), (a_t_writer, .inr (5, [.ref a_t_page, .ref a_t_writer_decimal, .ref a_t_writer_natural])), (a_t_page, .inr (3, [.ref a_t_page_units, .int t_page_count])), (a_t_page_units, .inl (κ.2.2.1, 1100, .inl t_page_units)), (a_t_writer_decimal, .inr (1, [.ref a_t_writer_decimal_digits, .int t_writer_decimal_count, .int t_writer_decimal_point, .ref a_t_writer_decimal_rest, .ref a_t_writer_decimal_scale, .ref a_t_writer_decimal_below, .ref a_t_writer_decimal_above, .ref a_t_writer_decimal_sum])), (a_t_writer_decimal_digits, .inl (κ.2.1, 48, .inl t_writer_decimal_digits)), (a_t_writer_decimal_rest, .inr (2, [.ref a_t_writer_decimal_rest_limbs, .int t_writer_decimal_rest_used])), (a_t_writer_decimal_rest_limbs, .inl (κ.2.1, 48, .inl t_writer_decimal_rest_limbs)), (a_t_writer_decimal_scale, .inr (2, [.ref a_t_writer_decimal_scale_limbs, .int t_writer_decimal_scale_used])), (a_t_writer_decimal_scale_limbs, .inl (κ.2.1, 48, .inl t_writer_decimal_scale_limbs)), (a_t_writer_decimal_below, .inr (2, [.ref a_t_writer_decimal_below_limbs, .int t_writer_decimal_below_used])), (a_t_writer_decimal_below_limbs, .inl (κ.2.1, 48, .inl t_writer_decimal_below_limbs)), (a_t_writer_decimal_above, .inr (2, [.ref a_t_writer_decimal_above_limbs, .int t_writer_decimal_above_used])), (a_t_writer_decimal_above_limbs, .inl (κ.2.1, 48, .inl t_writer_decimal_above_limbs)), (a_t_writer_decimal_sum, .inr (2, [.ref a_t_writer_decimal_sum_limbs, .int t_writer_decimal_sum_used])), (a_t_writer_decimal_sum_limbs, .inl (κ.2.1, 48, .inl t_writer_decimal_sum_limbs))] (zEx k) := by
  refine zMetT.of hfl (by decide +kernel) (Nat.le_of_ble_eq_true rfl) ?_
  intro p e s m args below meth c ls A hF htr hne hlk hK hP hD hA hXs hl
  obtain ⟨hx, hb, hml, hown, hts⟩ := id hF
  have hS : va_S A s.heap s.heap [] := va_S.rf
  replace hl : lv_has ls 5 [(0, .ref a_t), (1, .long x1), (3, .int x3), (4, .int x4)] := hl
  unfold t_D_form at hf
  refine lv_iload_n hx hb d_D_form_0 rfl (lv_at hl 2 rfl) ?_
  by_cases c_1_0 : x3 = 0
  · have hf := (zbr hf).1 c_1_0
    rw [c_1_0]
    refine lv_tableIn (tgt := 28) hx hb d_D_form_1 (by decide) (by decide) (off := 27) (by decide) (by decide) ?_
    refine lv_iload hx hb d_D_form_28 (lv_at hl 3 rfl) ?_
    refine lv_if_lt (tgt := 40) hx hb d_D_form_30 (by decide) (fun c_30 => ?_) (fun c_30 => ?_)
    · have hf := (zbr hf).1 c_30
      obtain rfl := Option.some.inj hf
      show W p l e _ s m args below meth c s.heap [] 0 0 (zTQ "java/lang/IllegalArgumentException" below s) _
      exact zthrow (names := ["java/lang/RuntimeException", "java/lang/Exception"]) (tx := "digits is not 0 .. 20") hXE hXs hF htr hne hlk zcl_D_23 zis_JA zin_JA (by decide) ow_1 (by decide +kernel) (by decide +kernel) hl.1 ⟨by decide, by decide, by decide, by decide⟩ d_D_form_40 d_D_form_43 d_D_form_44 d_D_form_46 d_D_form_49
    · have hf := (zbr hf).2 c_30
      refine lv_iload hx hb d_D_form_33 (lv_at hl 3 rfl) ?_
      refine lv_bipush (v := 20) hx hb d_D_form_35 (by decide) ?_
      refine lv_icmp_le (tgt := 50) hx hb d_D_form_37 (by decide) (fun c_37 => ?_) (fun c_37 => ?_)
      · have hf := (zbr hf).1 c_37
        cases hf
      · have hf := (zbr hf).2 c_37
        obtain rfl := Option.some.inj hf
        show W p l e _ s m args below meth c s.heap [] 0 0 (zTQ "java/lang/IllegalArgumentException" below s) _
        exact zthrow (names := ["java/lang/RuntimeException", "java/lang/Exception"]) (tx := "digits is not 0 .. 20") hXE hXs hF htr hne hlk zcl_D_23 zis_JA zin_JA (by decide) ow_1 (by decide +kernel) (by decide +kernel) hl.1 ⟨by decide, by decide, by decide, by decide⟩ d_D_form_40 d_D_form_43 d_D_form_44 d_D_form_46 d_D_form_49
  have hf := (zbr hf).2 c_1_0
  by_cases c_1_1 : x3 = 1
  · have hf := (zbr hf).1 c_1_1
    rw [c_1_1]
    refine lv_tableIn (tgt := 63) hx hb d_D_form_1 (by decide) (by decide) (off := 62) (by decide) (by decide) ?_
    refine lv_iload hx hb d_D_form_63 (lv_at hl 3 rfl) ?_
    refine lv_iconst (v := (-1)) hx hb d_D_form_65 (by decide) ?_
    refine lv_icmp_lt (tgt := 76) hx hb d_D_form_66 (by decide) (fun c_66 => ?_) (fun c_66 => ?_)
    · have hf := (zbr hf).1 c_66
      obtain rfl := Option.some.inj hf
      show W p l e _ s m args below meth c s.heap [] 0 0 (zTQ "java/lang/IllegalArgumentException" below s) _
      exact zthrow (names := ["java/lang/RuntimeException", "java/lang/Exception"]) (tx := "digits is not -1 .. 20") hXE hXs hF htr hne hlk zcl_D_23 zis_JA zin_JA (by decide) ow_1 (by decide +kernel) (by decide +kernel) hl.1 ⟨by decide, by decide, by decide, by decide⟩ d_D_form_76 d_D_form_79 d_D_form_80 d_D_form_82 d_D_form_85
    · have hf := (zbr hf).2 c_66
      refine lv_iload hx hb d_D_form_69 (lv_at hl 3 rfl) ?_
      refine lv_bipush (v := 20) hx hb d_D_form_71 (by decide) ?_
      refine lv_icmp_le (tgt := 86) hx hb d_D_form_73 (by decide) (fun c_73 => ?_) (fun c_73 => ?_)
      · have hf := (zbr hf).1 c_73
        cases hf
      · have hf := (zbr hf).2 c_73
        obtain rfl := Option.some.inj hf
        show W p l e _ s m args below meth c s.heap [] 0 0 (zTQ "java/lang/IllegalArgumentException" below s) _
        exact zthrow (names := ["java/lang/RuntimeException", "java/lang/Exception"]) (tx := "digits is not -1 .. 20") hXE hXs hF htr hne hlk zcl_D_23 zis_JA zin_JA (by decide) ow_1 (by decide +kernel) (by decide +kernel) hl.1 ⟨by decide, by decide, by decide, by decide⟩ d_D_form_76 d_D_form_79 d_D_form_80 d_D_form_82 d_D_form_85
  have hf := (zbr hf).2 c_1_1
  by_cases c_1_2 : x3 = 2
  · have hf := (zbr hf).1 c_1_2
    rw [c_1_2]
    refine lv_tableIn (tgt := 99) hx hb d_D_form_1 (by decide) (by decide) (off := 98) (by decide) (by decide) ?_
    refine lv_iload hx hb d_D_form_99 (lv_at hl 3 rfl) ?_
    refine lv_iconst (v := 1) hx hb d_D_form_101 (by decide) ?_
    refine lv_icmp_lt (tgt := 112) hx hb d_D_form_102 (by decide) (fun c_102 => ?_) (fun c_102 => ?_)
    · have hf := (zbr hf).1 c_102
      obtain rfl := Option.some.inj hf
      show W p l e _ s m args below meth c s.heap [] 0 0 (zTQ "java/lang/IllegalArgumentException" below s) _
      exact zthrow (names := ["java/lang/RuntimeException", "java/lang/Exception"]) (tx := "digits is not 1 .. 21") hXE hXs hF htr hne hlk zcl_D_23 zis_JA zin_JA (by decide) ow_1 (by decide +kernel) (by decide +kernel) hl.1 ⟨by decide, by decide, by decide, by decide⟩ d_D_form_112 d_D_form_115 d_D_form_116 d_D_form_118 d_D_form_121
    · have hf := (zbr hf).2 c_102
      refine lv_iload hx hb d_D_form_105 (lv_at hl 3 rfl) ?_
      refine lv_bipush (v := 21) hx hb d_D_form_107 (by decide) ?_
      refine lv_icmp_le (tgt := 122) hx hb d_D_form_109 (by decide) (fun c_109 => ?_) (fun c_109 => ?_)
      · have hf := (zbr hf).1 c_109
        cases hf
      · have hf := (zbr hf).2 c_109
        obtain rfl := Option.some.inj hf
        show W p l e _ s m args below meth c s.heap [] 0 0 (zTQ "java/lang/IllegalArgumentException" below s) _
        exact zthrow (names := ["java/lang/RuntimeException", "java/lang/Exception"]) (tx := "digits is not 1 .. 21") hXE hXs hF htr hne hlk zcl_D_23 zis_JA zin_JA (by decide) ow_1 (by decide +kernel) (by decide +kernel) hl.1 ⟨by decide, by decide, by decide, by decide⟩ d_D_form_112 d_D_form_115 d_D_form_116 d_D_form_118 d_D_form_121
  have hf := (zbr hf).2 c_1_2
  refine lv_tableOut (tgt := 135) hx hb d_D_form_1 (by have h_0 := zti c_1_0 (n := 0) (by decide); have h_1 := zti c_1_1 (n := 1) (by decide); have h_2 := zti c_1_2 (n := 2) (by decide); omega) (by decide) ?_
  obtain rfl := Option.some.inj hf
  show W p l e _ s m args below meth c s.heap [] 0 0 (zTQ "java/lang/IllegalArgumentException" below s) _
  exact zthrow (names := ["java/lang/RuntimeException", "java/lang/Exception"]) (tx := "the form is not 0 .. 2") hXE hXs hF htr hne hlk zcl_D_23 zis_JA zin_JA (by decide) ow_1 (by decide +kernel) (by decide +kernel) hl.1 ⟨by decide, by decide, by decide, by decide⟩ d_D_form_135 d_D_form_138 d_D_form_139 d_D_form_141 d_D_form_144
noncomputable def t_D_unit (t_page_count : Int32) (t_page_units : Nat → Int32) (x1 : Int32) : Option Nat :=
  if x1 < 0 then (some 3) else ((f_T_length t_page_count).bind fun r_9 => (if x1 < r_9 then (none) else (some 3)))
set_option maxHeartbeats 4000000 in
set_option maxRecDepth 100000 in
theorem kt_D_unit (κ : zC) (X : zXT) (hX : zX κ X) (hXE : zXE X) (l : Launch) (hfl : l.flags = flags0) (a_t a_t_reader a_t_writer a_t_page a_t_writer_decimal a_t_writer_natural a_t_page_units : Nat) (sz : Nat) (t_page_count : Int32) (t_page_units : Nat → Int32) (x1 : Int32) (k : Nat) (hf : t_D_unit t_page_count t_page_units x1 = some k) : zMetT κ X l y_D_unit c_D_unit 2 (some .int) 6 82 [.ref a_t, .int x1] sz [(a_t, .inr (0, [.ref a_t_reader, .ref a_t_writer])), (a_t_writer, .inr (5, [.ref a_t_page, .ref a_t_writer_decimal, .ref a_t_writer_natural])), (a_t_page, .inr (3, [.ref a_t_page_units, .int t_page_count])), (a_t_page_units, .inl (κ.2.2.1, 1100, .inl t_page_units))] (zEx k) := by
  refine zMetT.of hfl (by decide +kernel) (Nat.le_of_ble_eq_true rfl) ?_
  intro p e s m args below meth c ls A hF htr hne hlk hK hP hD hA hXs hl
  obtain ⟨hx, hb, hml, hown, hts⟩ := id hF
  have hS : va_S A s.heap s.heap [] := va_S.rf
  replace hl : lv_has ls 2 [(0, .ref a_t), (1, .int x1)] := hl
  unfold t_D_unit at hf
  refine lv_iload_n hx hb d_D_unit_0 rfl (lv_at hl 1 rfl) ?_
  refine lv_if_lt (tgt := 15) hx hb d_D_unit_1 (by decide) (fun c_1 => ?_) (fun c_1 => ?_)
  · have hf := (zbr hf).1 c_1
    obtain rfl := Option.some.inj hf
    show W p l e _ s m args below meth c s.heap [] 0 0 (zTQ "java/lang/IndexOutOfBoundsException" below s) _
    exact zthrow (names := ["java/lang/RuntimeException", "java/lang/Exception"]) (tx := "there is no such unit") hXE hXs hF htr hne hlk zcl_D_144 zis_JB zin_JB (by decide) ow_3 (by decide +kernel) (by decide +kernel) hl.1 ⟨by decide, by decide, by decide, by decide⟩ d_D_unit_15 d_D_unit_18 d_D_unit_19 d_D_unit_21 d_D_unit_24
  · have hf := (zbr hf).2 c_1
    refine lv_iload_n hx hb d_D_unit_4 rfl (lv_at hl 1 rfl) ?_
    refine lv_aload_n hx hb d_D_unit_5 rfl (lv_at hl 0 rfl) ?_
    refine va_get (C := R_D) (T := F_D) (N := 2) hx hb hts i_D hown hK hP 0 rfl rfl 1 (by decide) (hts _ zfl_D_19) (fun _ h9 => h9) rfl d_D_unit_6 ?_
    obtain ⟨r_9, ho_9, hf⟩ := zbd hf
    refine zV0 (isC := [1, 2]) (wc := [(a_t_writer, .inr (5, [.ref a_t_page, .ref a_t_writer_decimal, .ref a_t_writer_natural])), (a_t_page, .inr (3, [.ref a_t_page_units, .int t_page_count]))]) (rest := [.int x1]) (As := []) hF zn_D_120 (k0_T_length κ X hX l a_t_writer a_t_page a_t_writer_decimal a_t_writer_natural a_t_page_units s.heap.size t_page_count r_9 ho_9) hX hXs hK hA hP hD hS ⟨by decide, by decide⟩ ⟨rfl, rfl, rfl⟩ (ci := 5) rfl rfl rfl rfl hl.1 rfl (Nat.le_of_ble_eq_true rfl) ⟨Nat.zero_le _, Nat.zero_le _⟩ d_D_unit_9 ?_
    refine lv_icmp_lt (tgt := 25) hx hb d_D_unit_12 (by decide) (fun c_12 => ?_) (fun c_12 => ?_)
    · have hf := (zbr hf).1 c_12
      cases hf
    · have hf := (zbr hf).2 c_12
      obtain rfl := Option.some.inj hf
      show W p l e _ s m args below meth c s.heap [] 0 0 (zTQ "java/lang/IndexOutOfBoundsException" below s) _
      exact zthrow (names := ["java/lang/RuntimeException", "java/lang/Exception"]) (tx := "there is no such unit") hXE hXs hF htr hne hlk zcl_D_144 zis_JB zin_JB (by decide) ow_3 (by decide +kernel) (by decide +kernel) hl.1 ⟨by decide, by decide, by decide, by decide⟩ d_D_unit_15 d_D_unit_18 d_D_unit_19 d_D_unit_21 d_D_unit_24
