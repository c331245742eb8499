theorem d_A_sumOfOrdered_0 : decode c_A_sumOfOrdered 0 = .ok (.lload_n 0, 1) := by decide +kernel
theorem d_A_sumOfOrdered_1 : decode c_A_sumOfOrdered 1 = .ok (.invokestatic 33, 3) := by decide +kernel
theorem d_A_sumOfOrdered_4 : decode c_A_sumOfOrdered 4 = .ok (.istore 4, 2) := by decide +kernel
theorem d_A_sumOfOrdered_6 : decode c_A_sumOfOrdered 6 = .ok (.lload_n 0, 1) := by decide +kernel
theorem d_A_sumOfOrdered_7 : decode c_A_sumOfOrdered 7 = .ok (.invokestatic 37, 3) := by decide +kernel
theorem d_A_sumOfOrdered_10 : decode c_A_sumOfOrdered 10 = .ok (.bipush 9, 2) := by decide +kernel
theorem d_A_sumOfOrdered_12 : decode c_A_sumOfOrdered 12 = .ok (.lshl, 1) := by decide +kernel
theorem d_A_sumOfOrdered_13 : decode c_A_sumOfOrdered 13 = .ok (.lstore 5, 2) := by decide +kernel
theorem d_A_sumOfOrdered_15 : decode c_A_sumOfOrdered 15 = .ok (.lload_n 2, 1) := by decide +kernel
theorem d_A_sumOfOrdered_16 : decode c_A_sumOfOrdered 16 = .ok (.invokestatic 37, 3) := by decide +kernel
theorem d_A_sumOfOrdered_19 : decode c_A_sumOfOrdered 19 = .ok (.bipush 9, 2) := by decide +kernel
theorem d_A_sumOfOrdered_21 : decode c_A_sumOfOrdered 21 = .ok (.lshl, 1) := by decide +kernel
theorem d_A_sumOfOrdered_22 : decode c_A_sumOfOrdered 22 = .ok (.iload 4, 2) := by decide +kernel
theorem d_A_sumOfOrdered_24 : decode c_A_sumOfOrdered 24 = .ok (.lload_n 2, 1) := by decide +kernel
theorem d_A_sumOfOrdered_25 : decode c_A_sumOfOrdered 25 = .ok (.invokestatic 33, 3) := by decide +kernel
theorem d_A_sumOfOrdered_28 : decode c_A_sumOfOrdered 28 = .ok (.isub, 1) := by decide +kernel
theorem d_A_sumOfOrdered_29 : decode c_A_sumOfOrdered 29 = .ok (.invokestatic 40, 3) := by decide +kernel
theorem d_A_sumOfOrdered_32 : decode c_A_sumOfOrdered 32 = .ok (.lstore 7, 2) := by decide +kernel
theorem d_A_sumOfOrdered_34 : decode c_A_sumOfOrdered 34 = .ok (.lload_n 0, 1) := by decide +kernel
theorem d_A_sumOfOrdered_35 : decode c_A_sumOfOrdered 35 = .ok (.lload_n 2, 1) := by decide +kernel
theorem d_A_sumOfOrdered_36 : decode c_A_sumOfOrdered 36 = .ok (.lxor, 1) := by decide +kernel
theorem d_A_sumOfOrdered_37 : decode c_A_sumOfOrdered 37 = .ok (.lconst 0, 1) := by decide +kernel
theorem d_A_sumOfOrdered_38 : decode c_A_sumOfOrdered 38 = .ok (.lcmp, 1) := by decide +kernel
theorem d_A_sumOfOrdered_39 : decode c_A_sumOfOrdered 39 = .ok (.ifCond .lt 22, 3) := by decide +kernel
theorem d_A_sumOfOrdered_42 : decode c_A_sumOfOrdered 42 = .ok (.lload_n 0, 1) := by decide +kernel
theorem d_A_sumOfOrdered_43 : decode c_A_sumOfOrdered 43 = .ok (.ldc2_w 28, 3) := by decide +kernel
theorem d_A_sumOfOrdered_46 : decode c_A_sumOfOrdered 46 = .ok (.land, 1) := by decide +kernel
theorem d_A_sumOfOrdered_47 : decode c_A_sumOfOrdered 47 = .ok (.lload 5, 2) := by decide +kernel
theorem d_A_sumOfOrdered_49 : decode c_A_sumOfOrdered 49 = .ok (.lload 7, 2) := by decide +kernel
theorem d_A_sumOfOrdered_51 : decode c_A_sumOfOrdered 51 = .ok (.ladd, 1) := by decide +kernel
theorem d_A_sumOfOrdered_52 : decode c_A_sumOfOrdered 52 = .ok (.iload 4, 2) := by decide +kernel
theorem d_A_sumOfOrdered_54 : decode c_A_sumOfOrdered 54 = .ok (.bipush 9, 2) := by decide +kernel
theorem d_A_sumOfOrdered_56 : decode c_A_sumOfOrdered 56 = .ok (.isub, 1) := by decide +kernel
theorem d_A_sumOfOrdered_57 : decode c_A_sumOfOrdered 57 = .ok (.invokestatic 44, 3) := by decide +kernel
theorem d_A_sumOfOrdered_60 : decode c_A_sumOfOrdered 60 = .ok (.lreturn, 1) := by decide +kernel
theorem d_A_sumOfOrdered_61 : decode c_A_sumOfOrdered 61 = .ok (.lload 5, 2) := by decide +kernel
theorem d_A_sumOfOrdered_63 : decode c_A_sumOfOrdered 63 = .ok (.lload 7, 2) := by decide +kernel
theorem d_A_sumOfOrdered_65 : decode c_A_sumOfOrdered 65 = .ok (.lcmp, 1) := by decide +kernel
theorem d_A_sumOfOrdered_66 : decode c_A_sumOfOrdered 66 = .ok (.ifCond .ne 7, 3) := by decide +kernel
theorem d_A_sumOfOrdered_69 : decode c_A_sumOfOrdered 69 = .ok (.lconst 0, 1) := by decide +kernel
theorem d_A_sumOfOrdered_70 : decode c_A_sumOfOrdered 70 = .ok (.goto 21, 3) := by decide +kernel
theorem d_A_sumOfOrdered_73 : decode c_A_sumOfOrdered 73 = .ok (.lload_n 0, 1) := by decide +kernel
theorem d_A_sumOfOrdered_74 : decode c_A_sumOfOrdered 74 = .ok (.ldc2_w 28, 3) := by decide +kernel
theorem d_A_sumOfOrdered_77 : decode c_A_sumOfOrdered 77 = .ok (.land, 1) := by decide +kernel
theorem d_A_sumOfOrdered_78 : decode c_A_sumOfOrdered 78 = .ok (.lload 5, 2) := by decide +kernel
theorem d_A_sumOfOrdered_80 : decode c_A_sumOfOrdered 80 = .ok (.lload 7, 2) := by decide +kernel
theorem d_A_sumOfOrdered_82 : decode c_A_sumOfOrdered 82 = .ok (.lsub, 1) := by decide +kernel
theorem d_A_sumOfOrdered_83 : decode c_A_sumOfOrdered 83 = .ok (.iload 4, 2) := by decide +kernel
theorem d_A_sumOfOrdered_85 : decode c_A_sumOfOrdered 85 = .ok (.bipush 9, 2) := by decide +kernel
theorem d_A_sumOfOrdered_87 : decode c_A_sumOfOrdered 87 = .ok (.isub, 1) := by decide +kernel
theorem d_A_sumOfOrdered_88 : decode c_A_sumOfOrdered 88 = .ok (.invokestatic 44, 3) := by decide +kernel
theorem d_A_sumOfOrdered_91 : decode c_A_sumOfOrdered 91 = .ok (.lreturn, 1) := by decide +kernel
theorem zn_A_33 : zNS R_A 33 y_B_exponent c_B_exponent 3 (some .int) 1 := ⟨zco_B_exponent, zin_B, zml_A_33, zst_B_exponent, by decide +kernel⟩
theorem zn_A_37 : zNS R_A 37 y_B_mantissa c_B_mantissa 4 (some .long) 1 := ⟨zco_B_mantissa, zin_B, zml_A_37, zst_B_mantissa, by decide +kernel⟩
theorem zn_A_40 : zNS R_A 40 y_B_shiftDownWithTrace c_B_shiftDownWithTrace 5 (some .long) 2 := ⟨zco_B_shiftDownWithTrace, zin_B, zml_A_40, zst_B_shiftDownWithTrace, by decide +kernel⟩
theorem zn_A_44 : zNS R_A 44 y_B_round c_B_round 9 (some .long) 3 := ⟨zco_B_round, zin_B, zml_A_44, zst_B_round, by decide +kernel⟩
set_option maxHeartbeats 4000000 in
set_option maxRecDepth 100000 in
theorem k_A_sumOfOrdered (κ : zC) (X : zXT) (hX : zX κ X) (l : Launch) (sz : Nat) (x0 : Int64) (x2 : Int64) (out : Int64) (hf : f_A_sumOfOrdered x0 x2 = some out) : zMet κ X l y_A_sumOfOrdered c_A_sumOfOrdered 9 (some .long) 3 72 [.long x0, .long x2] sz [] (zQl κ (fun (r : Int64) (_ : Unit) => r = out) (fun u => [])) := by
  refine zMet.ofL (by decide +kernel) (Nat.le_of_ble_eq_true rfl) ?_
  intro p e s m args below meth c ls A Q hF hK hP hD hA hXs hS hl hret
  obtain ⟨hx, hb, hml, hown, hts⟩ := id hF
  obtain ⟨H, hH⟩ : ∃ H, H = s.heap := ⟨_, rfl⟩
  obtain ⟨locs, hlo⟩ : ∃ z : List Loc, z = [] := ⟨_, rfl⟩
  replace hP : zP κ [] H := by rw [hH]; exact hP
  replace hS : va_S A s.heap H locs := by rw [hH, hlo]; exact hS
  suffices hgo : W p l e (zR 3 72) s m args below meth c H locs 0 0 Q (F0 m 0 ls []) by rw [hH, hlo] at hgo; exact hgo
  clear hH hlo
  replace hl : lv_has ls 9 [(0, .long x0), (2, .long x2)] := hl
  unfold f_A_sumOfOrdered at hf
  refine lv_lload_n hx hb d_A_sumOfOrdered_0 rfl (lv_at hl 0 rfl) ?_
  obtain ⟨o_1, ho_1, hf⟩ := zbd hf
  refine zSi (isC := []) (isR := []) (isN := []) (wc := []) (wr := []) (wn := fun u => []) (rest := []) (As := [.long x0]) hF zn_A_33 (k_B_exponent κ X hX l H.size x0 o_1 ho_1) hX hXs hK hA hP hD hS ⟨by decide, by decide⟩ ⟨rfl, rfl, rfl, rfl, rfl, by decide⟩ ⟨rfl, fun _ => rfl, fun _ => rfl⟩ rfl hl.1 rfl (Nat.le_of_ble_eq_true rfl) ⟨Nat.zero_le _, Nat.zero_le _⟩ d_A_sumOfOrdered_1 (fun r_1 u H locs hw hP hD hS => ?_)
  subst hw
  refine lv_istore (lv' := [(4, .int r_1), (0, .long x0), (2, .long x2)]) hx hb d_A_sumOfOrdered_4 hl (by decide) rfl (fun ls hl => ?_)
  refine lv_lload_n hx hb d_A_sumOfOrdered_6 rfl (lv_at hl 1 rfl) ?_
  obtain ⟨o_7, ho_7, hf⟩ := zbd hf
  refine zSl (isC := []) (isR := []) (isN := []) (wc := []) (wr := []) (wn := fun u => []) (rest := []) (As := [.long x0]) hF zn_A_37 (k_B_mantissa κ X hX l H.size x0 o_7 ho_7) hX hXs hK hA hP hD hS ⟨by decide, by decide⟩ ⟨rfl, rfl, rfl, rfl, rfl, by decide⟩ ⟨rfl, fun _ => rfl, fun _ => rfl⟩ rfl hl.1 rfl (Nat.le_of_ble_eq_true rfl) ⟨Nat.zero_le _, Nat.zero_le _⟩ d_A_sumOfOrdered_7 (fun r_7 u H locs hw hP hD hS => ?_)
  subst hw
  refine lv_bipush (v := 9) hx hb d_A_sumOfOrdered_10 (by decide) ?_
  refine lv_lshl (v := (jlshl r_7 9)) hx hb d_A_sumOfOrdered_12 rfl ?_
  refine lv_lstore (lv' := [(5, .long (jlshl r_7 9)), (4, .int r_1), (0, .long x0), (2, .long x2)]) hx hb d_A_sumOfOrdered_13 hl (by decide) rfl (fun ls hl => ?_)
  refine lv_lload_n hx hb d_A_sumOfOrdered_15 rfl (lv_at hl 3 rfl) ?_
  obtain ⟨o_16, ho_16, hf⟩ := zbd hf
  refine zSl (isC := []) (isR := []) (isN := []) (wc := []) (wr := []) (wn := fun u => []) (rest := []) (As := [.long x2]) hF zn_A_37 (k_B_mantissa κ X hX l H.size x2 o_16 ho_16) hX hXs hK hA hP hD hS ⟨by decide, by decide⟩ ⟨rfl, rfl, rfl, rfl, rfl, by decide⟩ ⟨rfl, fun _ => rfl, fun _ => rfl⟩ rfl hl.1 rfl (Nat.le_of_ble_eq_true rfl) ⟨Nat.zero_le _, Nat.zero_le _⟩ d_A_sumOfOrdered_16 (fun r_16 u H locs hw hP hD hS => ?_)
  subst hw
  refine lv_bipush (v := 9) hx hb d_A_sumOfOrdered_19 (by decide) ?_
  refine lv_lshl (v := (jlshl r_16 9)) hx hb d_A_sumOfOrdered_21 rfl ?_
  refine lv_iload hx hb d_A_sumOfOrdered_22 (lv_at hl 1 rfl) ?_
  refine lv_lload_n hx hb d_A_sumOfOrdered_24 rfl (lv_at hl 3 rfl) ?_
  obtain ⟨o_25, ho_25, hf⟩ := zbd hf
  refine zSi (isC := []) (isR := []) (isN := []) (wc := []) (wr := []) (wn := fun u => []) (rest := [.int r_1, .long (jlshl r_16 9)]) (As := [.long x2]) hF zn_A_33 (k_B_exponent κ X hX l H.size x2 o_25 ho_25) hX hXs hK hA hP hD hS ⟨by decide, by decide⟩ ⟨rfl, rfl, rfl, rfl, rfl, by decide⟩ ⟨rfl, fun _ => rfl, fun _ => rfl⟩ rfl hl.1 rfl (Nat.le_of_ble_eq_true rfl) ⟨Nat.zero_le _, Nat.zero_le _⟩ d_A_sumOfOrdered_25 (fun r_25 u H locs hw hP hD hS => ?_)
  subst hw
  refine lv_isub hx hb d_A_sumOfOrdered_28 ?_
  obtain ⟨o_29, ho_29, hf⟩ := zbd hf
  refine zSl (isC := []) (isR := []) (isN := []) (wc := []) (wr := []) (wn := fun u => []) (rest := []) (As := [.long (jlshl r_16 9), .int (r_1 - r_25)]) hF zn_A_40 (k_B_shiftDownWithTrace κ X hX l H.size (jlshl r_16 9) (r_1 - r_25) o_29 ho_29) hX hXs hK hA hP hD hS ⟨by decide, by decide⟩ ⟨rfl, rfl, rfl, rfl, rfl, by decide⟩ ⟨rfl, fun _ => rfl, fun _ => rfl⟩ rfl hl.1 rfl (Nat.le_of_ble_eq_true rfl) ⟨Nat.zero_le _, Nat.zero_le _⟩ d_A_sumOfOrdered_29 (fun r_29 u H locs hw hP hD hS => ?_)
  subst hw
  refine lv_lstore (lv' := [(7, .long r_29), (5, .long (jlshl r_7 9)), (4, .int r_1), (0, .long x0), (2, .long x2)]) hx hb d_A_sumOfOrdered_32 hl (by decide) rfl (fun ls hl => ?_)
  refine lv_lload_n hx hb d_A_sumOfOrdered_34 rfl (lv_at hl 3 rfl) ?_
  refine lv_lload_n hx hb d_A_sumOfOrdered_35 rfl (lv_at hl 4 rfl) ?_
  refine lv_lxor hx hb d_A_sumOfOrdered_36 ?_
  refine lv_lconst (v := 0) hx hb d_A_sumOfOrdered_37 (by decide) ?_
  refine W.lcmp hx hb d_A_sumOfOrdered_38 ?_
  refine lv_if_lt (tgt := 61) hx hb d_A_sumOfOrdered_39 (by decide) (fun c_39 => ?_) (fun c_39 => ?_)
  · have hf := (zbr hf).1 (zc_lt.mp c_39)
    refine lv_lload hx hb d_A_sumOfOrdered_61 (lv_at hl 1 rfl) ?_
    refine lv_lload hx hb d_A_sumOfOrdered_63 (lv_at hl 0 rfl) ?_
    refine W.lcmp hx hb d_A_sumOfOrdered_65 ?_
    refine lv_if_ne (tgt := 73) hx hb d_A_sumOfOrdered_66 (by decide) (fun c_66 => ?_) (fun c_66 => ?_)
    · have hf := (zbr hf).2 (zc_neq c_66)
      refine lv_lload_n hx hb d_A_sumOfOrdered_73 rfl (lv_at hl 3 rfl) ?_
      refine lv_ldc2 (v := (-9223372036854775808)) hx hb hown (hts _ zkl_A_28) d_A_sumOfOrdered_74 ?_
      refine lv_land hx hb d_A_sumOfOrdered_77 ?_
      refine lv_lload hx hb d_A_sumOfOrdered_78 (lv_at hl 1 rfl) ?_
      refine lv_lload hx hb d_A_sumOfOrdered_80 (lv_at hl 0 rfl) ?_
      refine lv_lsub hx hb d_A_sumOfOrdered_82 ?_
      refine lv_iload hx hb d_A_sumOfOrdered_83 (lv_at hl 2 rfl) ?_
      refine lv_bipush (v := 9) hx hb d_A_sumOfOrdered_85 (by decide) ?_
      refine lv_isub hx hb d_A_sumOfOrdered_87 ?_
      obtain ⟨o_88, ho_88, hf⟩ := zbd hf
      refine zSl (isC := []) (isR := []) (isN := []) (wc := []) (wr := []) (wn := fun u => []) (rest := []) (As := [.long (x0 &&& (-9223372036854775808)), .long ((jlshl r_7 9) - r_29), .int (r_1 - 9)]) hF zn_A_44 (k_B_round κ X hX l H.size (x0 &&& (-9223372036854775808)) ((jlshl r_7 9) - r_29) (r_1 - 9) o_88 ho_88) hX hXs hK hA hP hD hS ⟨by decide, by decide⟩ ⟨rfl, rfl, rfl, rfl, rfl, by decide⟩ ⟨rfl, fun _ => rfl, fun _ => rfl⟩ rfl hl.1 rfl (Nat.le_of_ble_eq_true rfl) ⟨Nat.zero_le _, Nat.zero_le _⟩ d_A_sumOfOrdered_88 (fun r_88 u H locs hw hP hD hS => ?_)
      subst hw
      exact hret (r_88) () H locs ls _ d_A_sumOfOrdered_91 hP hD hS (Option.some.inj hf)
    · have hf := (zbr hf).1 (zc_eq.mp c_66)
      refine lv_lconst (v := 0) hx hb d_A_sumOfOrdered_69 (by decide) ?_
      refine lv_goto (tgt := 91) hx hb d_A_sumOfOrdered_70 (by decide) ?_
      exact hret ((0 : Int64)) () H locs ls _ d_A_sumOfOrdered_91 hP hD hS (Option.some.inj hf)
  · have hf := (zbr hf).2 (zc_nlt c_39)
    refine lv_lload_n hx hb d_A_sumOfOrdered_42 rfl (lv_at hl 3 rfl) ?_
    refine lv_ldc2 (v := (-9223372036854775808)) hx hb hown (hts _ zkl_A_28) d_A_sumOfOrdered_43 ?_
    refine lv_land hx hb d_A_sumOfOrdered_46 ?_
    refine lv_lload hx hb d_A_sumOfOrdered_47 (lv_at hl 1 rfl) ?_
    refine lv_lload hx hb d_A_sumOfOrdered_49 (lv_at hl 0 rfl) ?_
    refine lv_ladd hx hb d_A_sumOfOrdered_51 ?_
    refine lv_iload hx hb d_A_sumOfOrdered_52 (lv_at hl 2 rfl) ?_
    refine lv_bipush (v := 9) hx hb d_A_sumOfOrdered_54 (by decide) ?_
    refine lv_isub hx hb d_A_sumOfOrdered_56 ?_
    obtain ⟨o_57, ho_57, hf⟩ := zbd hf
    refine zSl (isC := []) (isR := []) (isN := []) (wc := []) (wr := []) (wn := fun u => []) (rest := []) (As := [.long (x0 &&& (-9223372036854775808)), .long ((jlshl r_7 9) + r_29), .int (r_1 - 9)]) hF zn_A_44 (k_B_round κ X hX l H.size (x0 &&& (-9223372036854775808)) ((jlshl r_7 9) + r_29) (r_1 - 9) o_57 ho_57) hX hXs hK hA hP hD hS ⟨by decide, by decide⟩ ⟨rfl, rfl, rfl, rfl, rfl, by decide⟩ ⟨rfl, fun _ => rfl, fun _ => rfl⟩ rfl hl.1 rfl (Nat.le_of_ble_eq_true rfl) ⟨Nat.zero_le _, Nat.zero_le _⟩ d_A_sumOfOrdered_57 (fun r_57 u H locs hw hP hD hS => ?_)
    subst hw
    exact hret (r_57) () H locs ls _ d_A_sumOfOrdered_60 hP hD hS (Option.some.inj hf)
theorem d_A_sum_0 : decode c_A_sum 0 = .ok (.lload_n 0, 1) := by decide +kernel
theorem d_A_sum_1 : decode c_A_sum 1 = .ok (.invokestatic 9, 3) := by decide +kernel
theorem d_A_sum_4 : decode c_A_sum 4 = .ok (.ifCond .ne 10, 3) := by decide +kernel
theorem d_A_sum_7 : decode c_A_sum 7 = .ok (.lload_n 2, 1) := by decide +kernel
theorem d_A_sum_8 : decode c_A_sum 8 = .ok (.invokestatic 9, 3) := by decide +kernel
theorem d_A_sum_11 : decode c_A_sum 11 = .ok (.ifCond .eq 7, 3) := by decide +kernel
theorem d_A_sum_14 : decode c_A_sum 14 = .ok (.ldc2_w 15, 3) := by decide +kernel
theorem d_A_sum_17 : decode c_A_sum 17 = .ok (.lreturn, 1) := by decide +kernel
theorem d_A_sum_18 : decode c_A_sum 18 = .ok (.lload_n 0, 1) := by decide +kernel
theorem d_A_sum_19 : decode c_A_sum 19 = .ok (.invokestatic 17, 3) := by decide +kernel
theorem d_A_sum_22 : decode c_A_sum 22 = .ok (.ifCond .eq 24, 3) := by decide +kernel
theorem d_A_sum_25 : decode c_A_sum 25 = .ok (.lload_n 2, 1) := by decide +kernel
theorem d_A_sum_26 : decode c_A_sum 26 = .ok (.invokestatic 17, 3) := by decide +kernel
theorem d_A_sum_29 : decode c_A_sum 29 = .ok (.ifCond .eq 15, 3) := by decide +kernel
theorem d_A_sum_32 : decode c_A_sum 32 = .ok (.lload_n 0, 1) := by decide +kernel
theorem d_A_sum_33 : decode c_A_sum 33 = .ok (.lload_n 2, 1) := by decide +kernel
theorem d_A_sum_34 : decode c_A_sum 34 = .ok (.lcmp, 1) := by decide +kernel
theorem d_A_sum_35 : decode c_A_sum 35 = .ok (.ifCond .eq 9, 3) := by decide +kernel
theorem d_A_sum_38 : decode c_A_sum 38 = .ok (.ldc2_w 15, 3) := by decide +kernel
theorem d_A_sum_41 : decode c_A_sum 41 = .ok (.goto 4, 3) := by decide +kernel
theorem d_A_sum_44 : decode c_A_sum 44 = .ok (.lload_n 0, 1) := by decide +kernel
theorem d_A_sum_45 : decode c_A_sum 45 = .ok (.lreturn, 1) := by decide +kernel
theorem d_A_sum_46 : decode c_A_sum 46 = .ok (.lload_n 2, 1) := by decide +kernel
theorem d_A_sum_47 : decode c_A_sum 47 = .ok (.invokestatic 17, 3) := by decide +kernel
theorem d_A_sum_50 : decode c_A_sum 50 = .ok (.ifCond .eq 5, 3) := by decide +kernel
theorem d_A_sum_53 : decode c_A_sum 53 = .ok (.lload_n 2, 1) := by decide +kernel
theorem d_A_sum_54 : decode c_A_sum 54 = .ok (.lreturn, 1) := by decide +kernel
theorem d_A_sum_55 : decode c_A_sum 55 = .ok (.lload_n 0, 1) := by decide +kernel
theorem d_A_sum_56 : decode c_A_sum 56 = .ok (.invokestatic 20, 3) := by decide +kernel
theorem d_A_sum_59 : decode c_A_sum 59 = .ok (.lload_n 2, 1) := by decide +kernel
theorem d_A_sum_60 : decode c_A_sum 60 = .ok (.invokestatic 20, 3) := by decide +kernel
theorem d_A_sum_63 : decode c_A_sum 63 = .ok (.lcmp, 1) := by decide +kernel
theorem d_A_sum_64 : decode c_A_sum 64 = .ok (.ifCond .lt 11, 3) := by decide +kernel
theorem d_A_sum_67 : decode c_A_sum 67 = .ok (.lload_n 0, 1) := by decide +kernel
theorem d_A_sum_68 : decode c_A_sum 68 = .ok (.lload_n 2, 1) := by decide +kernel
theorem d_A_sum_69 : decode c_A_sum 69 = .ok (.invokestatic 24, 3) := by decide +kernel
theorem d_A_sum_72 : decode c_A_sum 72 = .ok (.goto 8, 3) := by decide +kernel
theorem d_A_sum_75 : decode c_A_sum 75 = .ok (.lload_n 2, 1) := by decide +kernel
theorem d_A_sum_76 : decode c_A_sum 76 = .ok (.lload_n 0, 1) := by decide +kernel
theorem d_A_sum_77 : decode c_A_sum 77 = .ok (.invokestatic 24, 3) := by decide +kernel
theorem d_A_sum_80 : decode c_A_sum 80 = .ok (.lreturn, 1) := by decide +kernel
theorem zn_A_9 : zNS R_A 9 y_B_isNan c_B_isNan 2 (some .boolean) 1 := ⟨zco_B_isNan, zin_B, zml_A_9, zst_B_isNan, by decide +kernel⟩
theorem zn_A_17 : zNS R_A 17 y_B_isInfinite c_B_isInfinite 2 (some .boolean) 1 := ⟨zco_B_isInfinite, zin_B, zml_A_17, zst_B_isInfinite, by decide +kernel⟩
theorem zn_A_20 : zNS R_A 20 y_B_magnitude c_B_magnitude 2 (some .long) 1 := ⟨zco_B_magnitude, zin_B, zml_A_20, zst_B_magnitude, by decide +kernel⟩
theorem zn_A_24 : zNS R_A 24 y_A_sumOfOrdered c_A_sumOfOrdered 9 (some .long) 2 := ⟨zco_A_sumOfOrdered, zin_A, zml_A_24, zst_A_sumOfOrdered, by decide +kernel⟩
set_option maxHeartbeats 4000000 in
set_option maxRecDepth 100000 in
theorem k_A_sum (κ : zC) (X : zXT) (hX : zX κ X) (l : Launch) (sz : Nat) (x0 : Int64) (x2 : Int64) (out : Int64) (hf : f_A_sum x0 x2 = some out) : zMet κ X l y_A_sum c_A_sum 4 (some .long) 4 100 [.long x0, .long x2] sz [] (zQl κ (fun (r : Int64) (_ : Unit) => r = out) (fun u => [])) := by
  refine zMet.ofL (by decide +kernel) (Nat.le_of_ble_eq_true rfl) ?_
  intro p e s m args below meth c ls A Q hF hK hP hD hA hXs hS hl hret
  obtain ⟨hx, hb, hml, hown, hts⟩ := id hF
  obtain ⟨H, hH⟩ : ∃ H, H = s.heap := ⟨_, rfl⟩
  obtain ⟨locs, hlo⟩ : ∃ z : List Loc, z = [] := ⟨_, rfl⟩
  replace hP : zP κ [] H := by rw [hH]; exact hP
  replace hS : va_S A s.heap H locs := by rw [hH, hlo]; exact hS
  suffices hgo : W p l e (zR 4 100) s m args below meth c H locs 0 0 Q (F0 m 0 ls []) by rw [hH, hlo] at hgo; exact hgo
  clear hH hlo
  replace hl : lv_has ls 4 [(0, .long x0), (2, .long x2)] := hl
  unfold f_A_sum at hf
  refine lv_lload_n hx hb d_A_sum_0 rfl (lv_at hl 0 rfl) ?_
  obtain ⟨o_1, ho_1, hf⟩ := zbd hf
  refine zSi (isC := []) (isR := []) (isN := []) (wc := []) (wr := []) (wn := fun u => []) (rest := []) (As := [.long x0]) hF zn_A_9 (k_B_isNan κ X hX l H.size x0 o_1 ho_1) hX hXs hK hA hP hD hS ⟨by decide, by decide⟩ ⟨rfl, rfl, rfl, rfl, rfl, by decide⟩ ⟨rfl, fun _ => rfl, fun _ => rfl⟩ rfl hl.1 rfl (Nat.le_of_ble_eq_true rfl) ⟨Nat.zero_le _, Nat.zero_le _⟩ d_A_sum_1 (fun r_1 u H locs hw hP hD hS => ?_)
  subst hw
  refine lv_if_ne (tgt := 14) hx hb d_A_sum_4 (by decide) (fun c_4 => ?_) (fun c_4 => ?_)
  · have hf := (zbr hf).2 c_4
    refine lv_ldc2 (v := 9221120237041090560) hx hb hown (hts _ zkl_A_15) d_A_sum_14 ?_
    exact hret ((9221120237041090560 : Int64)) () H locs ls _ d_A_sum_17 hP hD hS (Option.some.inj hf)
  · have hf := (zbr hf).1 c_4
    refine lv_lload_n hx hb d_A_sum_7 rfl (lv_at hl 1 rfl) ?_
    obtain ⟨o_8, ho_8, hf⟩ := zbd hf
    refine zSi (isC := []) (isR := []) (isN := []) (wc := []) (wr := []) (wn := fun u => []) (rest := []) (As := [.long x2]) hF zn_A_9 (k_B_isNan κ X hX l H.size x2 o_8 ho_8) hX hXs hK hA hP hD hS ⟨by decide, by decide⟩ ⟨rfl, rfl, rfl, rfl, rfl, by decide⟩ ⟨rfl, fun _ => rfl, fun _ => rfl⟩ rfl hl.1 rfl (Nat.le_of_ble_eq_true rfl) ⟨Nat.zero_le _, Nat.zero_le _⟩ d_A_sum_8 (fun r_8 u H locs hw hP hD hS => ?_)
    subst hw
    refine lv_if_eq (tgt := 18) hx hb d_A_sum_11 (by decide) (fun c_11 => ?_) (fun c_11 => ?_)
    · have hf := (zbr hf).1 c_11
      refine lv_lload_n hx hb d_A_sum_18 rfl (lv_at hl 0 rfl) ?_
      obtain ⟨o_19, ho_19, hf⟩ := zbd hf
      refine zSi (isC := []) (isR := []) (isN := []) (wc := []) (wr := []) (wn := fun u => []) (rest := []) (As := [.long x0]) hF zn_A_17 (k_B_isInfinite κ X hX l H.size x0 o_19 ho_19) hX hXs hK hA hP hD hS ⟨by decide, by decide⟩ ⟨rfl, rfl, rfl, rfl, rfl, by decide⟩ ⟨rfl, fun _ => rfl, fun _ => rfl⟩ rfl hl.1 rfl (Nat.le_of_ble_eq_true rfl) ⟨Nat.zero_le _, Nat.zero_le _⟩ d_A_sum_19 (fun r_19 u H locs hw hP hD hS => ?_)
      subst hw
      refine lv_if_eq (tgt := 46) hx hb d_A_sum_22 (by decide) (fun c_22 => ?_) (fun c_22 => ?_)
      · have hf := (zbr hf).1 c_22
        refine lv_lload_n hx hb d_A_sum_46 rfl (lv_at hl 1 rfl) ?_
        obtain ⟨o_47, ho_47, hf⟩ := zbd hf
        refine zSi (isC := []) (isR := []) (isN := []) (wc := []) (wr := []) (wn := fun u => []) (rest := []) (As := [.long x2]) hF zn_A_17 (k_B_isInfinite κ X hX l H.size x2 o_47 ho_47) hX hXs hK hA hP hD hS ⟨by decide, by decide⟩ ⟨rfl, rfl, rfl, rfl, rfl, by decide⟩ ⟨rfl, fun _ => rfl, fun _ => rfl⟩ rfl hl.1 rfl (Nat.le_of_ble_eq_true rfl) ⟨Nat.zero_le _, Nat.zero_le _⟩ d_A_sum_47 (fun r_47 u H locs hw hP hD hS => ?_)
        subst hw
        refine lv_if_eq (tgt := 55) hx hb d_A_sum_50 (by decide) (fun c_50 => ?_) (fun c_50 => ?_)
        · have hf := (zbr hf).1 c_50
          refine lv_lload_n hx hb d_A_sum_55 rfl (lv_at hl 0 rfl) ?_
          obtain ⟨o_56, ho_56, hf⟩ := zbd hf
          refine zSl (isC := []) (isR := []) (isN := []) (wc := []) (wr := []) (wn := fun u => []) (rest := []) (As := [.long x0]) hF zn_A_20 (k_B_magnitude κ X hX l H.size x0 o_56 ho_56) hX hXs hK hA hP hD hS ⟨by decide, by decide⟩ ⟨rfl, rfl, rfl, rfl, rfl, by decide⟩ ⟨rfl, fun _ => rfl, fun _ => rfl⟩ rfl hl.1 rfl (Nat.le_of_ble_eq_true rfl) ⟨Nat.zero_le _, Nat.zero_le _⟩ d_A_sum_56 (fun r_56 u H locs hw hP hD hS => ?_)
          subst hw
          refine lv_lload_n hx hb d_A_sum_59 rfl (lv_at hl 1 rfl) ?_
          obtain ⟨o_60, ho_60, hf⟩ := zbd hf
          refine zSl (isC := []) (isR := []) (isN := []) (wc := []) (wr := []) (wn := fun u => []) (rest := [.long r_56]) (As := [.long x2]) hF zn_A_20 (k_B_magnitude κ X hX l H.size x2 o_60 ho_60) hX hXs hK hA hP hD hS ⟨by decide, by decide⟩ ⟨rfl, rfl, rfl, rfl, rfl, by decide⟩ ⟨rfl, fun _ => rfl, fun _ => rfl⟩ rfl hl.1 rfl (Nat.le_of_ble_eq_true rfl) ⟨Nat.zero_le _, Nat.zero_le _⟩ d_A_sum_60 (fun r_60 u H locs hw hP hD hS => ?_)
          subst hw
          refine W.lcmp hx hb d_A_sum_63 ?_
          refine lv_if_lt (tgt := 75) hx hb d_A_sum_64 (by decide) (fun c_64 => ?_) (fun c_64 => ?_)
          · have hf := (zbr hf).1 (zc_lt.mp c_64)
            refine lv_lload_n hx hb d_A_sum_75 rfl (lv_at hl 1 rfl) ?_
            refine lv_lload_n hx hb d_A_sum_76 rfl (lv_at hl 0 rfl) ?_
            obtain ⟨o_77, ho_77, hf⟩ := zbd hf
            refine zSl (isC := []) (isR := []) (isN := []) (wc := []) (wr := []) (wn := fun u => []) (rest := []) (As := [.long x2, .long x0]) hF zn_A_24 (k_A_sumOfOrdered κ X hX l H.size x2 x0 o_77 ho_77) hX hXs hK hA hP hD hS ⟨by decide, by decide⟩ ⟨rfl, rfl, rfl, rfl, rfl, by decide⟩ ⟨rfl, fun _ => rfl, fun _ => rfl⟩ rfl hl.1 rfl (Nat.le_of_ble_eq_true rfl) ⟨Nat.zero_le _, Nat.zero_le _⟩ d_A_sum_77 (fun r_77 u H locs hw hP hD hS => ?_)
            subst hw
            exact hret (r_77) () H locs ls _ d_A_sum_80 hP hD hS (Option.some.inj hf)
          · have hf := (zbr hf).2 (zc_nlt c_64)
            refine lv_lload_n hx hb d_A_sum_67 rfl (lv_at hl 0 rfl) ?_
            refine lv_lload_n hx hb d_A_sum_68 rfl (lv_at hl 1 rfl) ?_
            obtain ⟨o_69, ho_69, hf⟩ := zbd hf
            refine zSl (isC := []) (isR := []) (isN := []) (wc := []) (wr := []) (wn := fun u => []) (rest := []) (As := [.long x0, .long x2]) hF zn_A_24 (k_A_sumOfOrdered κ X hX l H.size x0 x2 o_69 ho_69) hX hXs hK hA hP hD hS ⟨by decide, by decide⟩ ⟨rfl, rfl, rfl, rfl, rfl, by decide⟩ ⟨rfl, fun _ => rfl, fun _ => rfl⟩ rfl hl.1 rfl (Nat.le_of_ble_eq_true rfl) ⟨Nat.zero_le _, Nat.zero_le _⟩ d_A_sum_69 (fun r_69 u H locs hw hP hD hS => ?_)
            subst hw
            refine lv_goto (tgt := 80) hx hb d_A_sum_72 (by decide) ?_
            exact hret (r_69) () H locs ls _ d_A_sum_80 hP hD hS (Option.some.inj hf)
        · have hf := (zbr hf).2 c_50
          refine lv_lload_n hx hb d_A_sum_53 rfl (lv_at hl 1 rfl) ?_
          exact hret (x2) () H locs ls _ d_A_sum_54 hP hD hS (Option.some.inj hf)
      · have hf := (zbr hf).2 c_22
        refine lv_lload_n hx hb d_A_sum_25 rfl (lv_at hl 1 rfl) ?_
        obtain ⟨o_26, ho_26, hf⟩ := zbd hf
        refine zSi (isC := []) (isR := []) (isN := []) (wc := []) (wr := []) (wn := fun u => []) (rest := []) (As := [.long x2]) hF zn_A_17 (k_B_isInfinite κ X hX l H.size x2 o_26 ho_26) hX hXs hK hA hP hD hS ⟨by decide, by decide⟩ ⟨rfl, rfl, rfl, rfl, rfl, by decide⟩ ⟨rfl, fun _ => rfl, fun _ => rfl⟩ rfl hl.1 rfl (Nat.le_of_ble_eq_true rfl) ⟨Nat.zero_le _, Nat.zero_le _⟩ d_A_sum_26 (fun r_26 u H locs hw hP hD hS => ?_)
        subst hw
        refine lv_if_eq (tgt := 44) hx hb d_A_sum_29 (by decide) (fun c_29 => ?_) (fun c_29 => ?_)
        · have hf := (zbr hf).1 c_29
          refine lv_lload_n hx hb d_A_sum_44 rfl (lv_at hl 0 rfl) ?_
          exact hret (x0) () H locs ls _ d_A_sum_45 hP hD hS (Option.some.inj hf)
        · have hf := (zbr hf).2 c_29
          refine lv_lload_n hx hb d_A_sum_32 rfl (lv_at hl 0 rfl) ?_
          refine lv_lload_n hx hb d_A_sum_33 rfl (lv_at hl 1 rfl) ?_
          refine W.lcmp hx hb d_A_sum_34 ?_
          refine lv_if_eq (tgt := 44) hx hb d_A_sum_35 (by decide) (fun c_35 => ?_) (fun c_35 => ?_)
          · have hf := (zbr hf).1 (zc_eq.mp c_35)
            refine lv_lload_n hx hb d_A_sum_44 rfl (lv_at hl 0 rfl) ?_
            exact hret (x0) () H locs ls _ d_A_sum_45 hP hD hS (Option.some.inj hf)
          · have hf := (zbr hf).2 (zc_neq c_35)
            refine lv_ldc2 (v := 9221120237041090560) hx hb hown (hts _ zkl_A_15) d_A_sum_38 ?_
            refine lv_goto (tgt := 45) hx hb d_A_sum_41 (by decide) ?_
            exact hret ((9221120237041090560 : Int64)) () H locs ls _ d_A_sum_45 hP hD hS (Option.some.inj hf)
    · have hf := (zbr hf).2 c_11
      refine lv_ldc2 (v := 9221120237041090560) hx hb hown (hts _ zkl_A_15) d_A_sum_14 ?_
      exact hret ((9221120237041090560 : Int64)) () H locs ls _ d_A_sum_17 hP hD hS (Option.some.inj hf)
theorem d_A_difference_0 : decode c_A_difference 0 = .ok (.lload_n 0, 1) := by decide +kernel
theorem d_A_difference_1 : decode c_A_difference 1 = .ok (.lload_n 2, 1) := by decide +kernel
theorem d_A_difference_2 : decode c_A_difference 2 = .ok (.ldc2_w 28, 3) := by decide +kernel
theorem d_A_difference_5 : decode c_A_difference 5 = .ok (.lxor, 1) := by decide +kernel
theorem d_A_difference_6 : decode c_A_difference 6 = .ok (.invokestatic 30, 3) := by decide +kernel
theorem d_A_difference_9 : decode c_A_difference 9 = .ok (.lreturn, 1) := by decide +kernel
theorem zn_A_30 : zNS R_A 30 y_A_sum c_A_sum 4 (some .long) 2 := ⟨zco_A_sum, zin_A, zml_A_30, zst_A_sum, by decide +kernel⟩
set_option maxHeartbeats 4000000 in
set_option maxRecDepth 100000 in
theorem k_A_difference (κ : zC) (X : zXT) (hX : zX κ X) (l : Launch) (sz : Nat) (x0 : Int64) (x2 : Int64) (out : Int64) (hf : f_A_difference x0 x2 = some out) : zMet κ X l y_A_difference c_A_difference 4 (some .long) 5 123 [.long x0, .long x2] sz [] (zQl κ (fun (r : Int64) (_ : Unit) => r = out) (fun u => [])) := by
  refine zMet.ofL (by decide +kernel) (Nat.le_of_ble_eq_true rfl) ?_
  intro p e s m args below meth c ls A Q hF hK hP hD hA hXs hS hl hret
  obtain ⟨hx, hb, hml, hown, hts⟩ := id hF
  obtain ⟨H, hH⟩ : ∃ H, H = s.heap := ⟨_, rfl⟩
  obtain ⟨locs, hlo⟩ : ∃ z : List Loc, z = [] := ⟨_, rfl⟩
  replace hP : zP κ [] H := by rw [hH]; exact hP
  replace hS : va_S A s.heap H locs := by rw [hH, hlo]; exact hS
  suffices hgo : W p l e (zR 5 123) s m args below meth c H locs 0 0 Q (F0 m 0 ls []) by rw [hH, hlo] at hgo; exact hgo
  clear hH hlo
  replace hl : lv_has ls 4 [(0, .long x0), (2, .long x2)] := hl
  unfold f_A_difference at hf
  refine lv_lload_n hx hb d_A_difference_0 rfl (lv_at hl 0 rfl) ?_
  refine lv_lload_n hx hb d_A_difference_1 rfl (lv_at hl 1 rfl) ?_
  refine lv_ldc2 (v := (-9223372036854775808)) hx hb hown (hts _ zkl_A_28) d_A_difference_2 ?_
  refine lv_lxor hx hb d_A_difference_5 ?_
  obtain ⟨o_6, ho_6, hf⟩ := zbd hf
  refine zSl (isC := []) (isR := []) (isN := []) (wc := []) (wr := []) (wn := fun u => []) (rest := []) (As := [.long x0, .long (x2 ^^^ (-9223372036854775808))]) hF zn_A_30 (k_A_sum κ X hX l H.size x0 (x2 ^^^ (-9223372036854775808)) o_6 ho_6) hX hXs hK hA hP hD hS ⟨by decide, by decide⟩ ⟨rfl, rfl, rfl, rfl, rfl, by decide⟩ ⟨rfl, fun _ => rfl, fun _ => rfl⟩ rfl hl.1 rfl (Nat.le_of_ble_eq_true rfl) ⟨Nat.zero_le _, Nat.zero_le _⟩ d_A_difference_6 (fun r_6 u H locs hw hP hD hS => ?_)
  subst hw
  exact hret (r_6) () H locs ls _ d_A_difference_9 hP hD hS (Option.some.inj hf)
theorem d_A_productOfFinite_0 : decode c_A_productOfFinite 0 = .ok (.lload_n 2, 1) := by decide +kernel
theorem d_A_productOfFinite_1 : decode c_A_productOfFinite 1 = .ok (.invokestatic 37, 3) := by decide +kernel
theorem d_A_productOfFinite_4 : decode c_A_productOfFinite 4 = .ok (.invokestatic 57, 3) := by decide +kernel
theorem d_A_productOfFinite_7 : decode c_A_productOfFinite 7 = .ok (.istore 6, 2) := by decide +kernel
theorem d_A_productOfFinite_9 : decode c_A_productOfFinite 9 = .ok (.lload 4, 2) := by decide +kernel
theorem d_A_productOfFinite_11 : decode c_A_productOfFinite 11 = .ok (.invokestatic 37, 3) := by decide +kernel
theorem d_A_productOfFinite_14 : decode c_A_productOfFinite 14 = .ok (.invokestatic 57, 3) := by decide +kernel
theorem d_A_productOfFinite_17 : decode c_A_productOfFinite 17 = .ok (.istore 7, 2) := by decide +kernel
theorem d_A_productOfFinite_19 : decode c_A_productOfFinite 19 = .ok (.lload_n 2, 1) := by decide +kernel
theorem d_A_productOfFinite_20 : decode c_A_productOfFinite 20 = .ok (.invokestatic 37, 3) := by decide +kernel
theorem d_A_productOfFinite_23 : decode c_A_productOfFinite 23 = .ok (.iload 6, 2) := by decide +kernel
theorem d_A_productOfFinite_25 : decode c_A_productOfFinite 25 = .ok (.lshl, 1) := by decide +kernel
theorem d_A_productOfFinite_26 : decode c_A_productOfFinite 26 = .ok (.lstore 8, 2) := by decide +kernel
theorem d_A_productOfFinite_28 : decode c_A_productOfFinite 28 = .ok (.lload 4, 2) := by decide +kernel
theorem d_A_productOfFinite_30 : decode c_A_productOfFinite 30 = .ok (.invokestatic 37, 3) := by decide +kernel
theorem d_A_productOfFinite_33 : decode c_A_productOfFinite 33 = .ok (.iload 7, 2) := by decide +kernel
theorem d_A_productOfFinite_35 : decode c_A_productOfFinite 35 = .ok (.lshl, 1) := by decide +kernel
theorem d_A_productOfFinite_36 : decode c_A_productOfFinite 36 = .ok (.lstore 10, 2) := by decide +kernel
theorem d_A_productOfFinite_38 : decode c_A_productOfFinite 38 = .ok (.lload 8, 2) := by decide +kernel
theorem d_A_productOfFinite_40 : decode c_A_productOfFinite 40 = .ok (.ldc2_w 60, 3) := by decide +kernel
theorem d_A_productOfFinite_43 : decode c_A_productOfFinite 43 = .ok (.land, 1) := by decide +kernel
theorem d_A_productOfFinite_44 : decode c_A_productOfFinite 44 = .ok (.lload 10, 2) := by decide +kernel
theorem d_A_productOfFinite_46 : decode c_A_productOfFinite 46 = .ok (.ldc2_w 60, 3) := by decide +kernel
theorem d_A_productOfFinite_49 : decode c_A_productOfFinite 49 = .ok (.land, 1) := by decide +kernel
theorem d_A_productOfFinite_50 : decode c_A_productOfFinite 50 = .ok (.lmul, 1) := by decide +kernel
theorem d_A_productOfFinite_51 : decode c_A_productOfFinite 51 = .ok (.lstore 12, 2) := by decide +kernel
theorem d_A_productOfFinite_53 : decode c_A_productOfFinite 53 = .ok (.lload 8, 2) := by decide +kernel
theorem d_A_productOfFinite_55 : decode c_A_productOfFinite 55 = .ok (.bipush 26, 2) := by decide +kernel
theorem d_A_productOfFinite_57 : decode c_A_productOfFinite 57 = .ok (.lushr, 1) := by decide +kernel
theorem d_A_productOfFinite_58 : decode c_A_productOfFinite 58 = .ok (.lload 10, 2) := by decide +kernel
theorem d_A_productOfFinite_60 : decode c_A_productOfFinite 60 = .ok (.ldc2_w 60, 3) := by decide +kernel
theorem d_A_productOfFinite_63 : decode c_A_productOfFinite 63 = .ok (.land, 1) := by decide +kernel
theorem d_A_productOfFinite_64 : decode c_A_productOfFinite 64 = .ok (.lmul, 1) := by decide +kernel
theorem d_A_productOfFinite_65 : decode c_A_productOfFinite 65 = .ok (.lload 8, 2) := by decide +kernel
theorem d_A_productOfFinite_67 : decode c_A_productOfFinite 67 = .ok (.ldc2_w 60, 3) := by decide +kernel
theorem d_A_productOfFinite_70 : decode c_A_productOfFinite 70 = .ok (.land, 1) := by decide +kernel
theorem d_A_productOfFinite_71 : decode c_A_productOfFinite 71 = .ok (.lload 10, 2) := by decide +kernel
theorem d_A_productOfFinite_73 : decode c_A_productOfFinite 73 = .ok (.bipush 26, 2) := by decide +kernel
theorem d_A_productOfFinite_75 : decode c_A_productOfFinite 75 = .ok (.lushr, 1) := by decide +kernel
theorem d_A_productOfFinite_76 : decode c_A_productOfFinite 76 = .ok (.lmul, 1) := by decide +kernel
theorem d_A_productOfFinite_77 : decode c_A_productOfFinite 77 = .ok (.ladd, 1) := by decide +kernel
theorem d_A_productOfFinite_78 : decode c_A_productOfFinite 78 = .ok (.lload 12, 2) := by decide +kernel
theorem d_A_productOfFinite_80 : decode c_A_productOfFinite 80 = .ok (.bipush 26, 2) := by decide +kernel
theorem d_A_productOfFinite_82 : decode c_A_productOfFinite 82 = .ok (.lushr, 1) := by decide +kernel
theorem d_A_productOfFinite_83 : decode c_A_productOfFinite 83 = .ok (.ladd, 1) := by decide +kernel
theorem d_A_productOfFinite_84 : decode c_A_productOfFinite 84 = .ok (.lstore 14, 2) := by decide +kernel
theorem d_A_productOfFinite_86 : decode c_A_productOfFinite 86 = .ok (.lload 8, 2) := by decide +kernel
theorem d_A_productOfFinite_88 : decode c_A_productOfFinite 88 = .ok (.bipush 26, 2) := by decide +kernel
theorem d_A_productOfFinite_90 : decode c_A_productOfFinite 90 = .ok (.lushr, 1) := by decide +kernel
theorem d_A_productOfFinite_91 : decode c_A_productOfFinite 91 = .ok (.lload 10, 2) := by decide +kernel
theorem d_A_productOfFinite_93 : decode c_A_productOfFinite 93 = .ok (.bipush 26, 2) := by decide +kernel
theorem d_A_productOfFinite_95 : decode c_A_productOfFinite 95 = .ok (.lushr, 1) := by decide +kernel
theorem d_A_productOfFinite_96 : decode c_A_productOfFinite 96 = .ok (.lmul, 1) := by decide +kernel
theorem d_A_productOfFinite_97 : decode c_A_productOfFinite 97 = .ok (.lload 14, 2) := by decide +kernel
theorem d_A_productOfFinite_99 : decode c_A_productOfFinite 99 = .ok (.bipush 26, 2) := by decide +kernel
theorem d_A_productOfFinite_101 : decode c_A_productOfFinite 101 = .ok (.lushr, 1) := by decide +kernel
theorem d_A_productOfFinite_102 : decode c_A_productOfFinite 102 = .ok (.ladd, 1) := by decide +kernel
theorem d_A_productOfFinite_103 : decode c_A_productOfFinite 103 = .ok (.lstore 16, 2) := by decide +kernel
theorem d_A_productOfFinite_105 : decode c_A_productOfFinite 105 = .ok (.lload 14, 2) := by decide +kernel
theorem d_A_productOfFinite_107 : decode c_A_productOfFinite 107 = .ok (.ldc2_w 60, 3) := by decide +kernel
theorem d_A_productOfFinite_110 : decode c_A_productOfFinite 110 = .ok (.land, 1) := by decide +kernel
theorem d_A_productOfFinite_111 : decode c_A_productOfFinite 111 = .ok (.bipush 26, 2) := by decide +kernel
theorem d_A_productOfFinite_113 : decode c_A_productOfFinite 113 = .ok (.lshl, 1) := by decide +kernel
theorem d_A_productOfFinite_114 : decode c_A_productOfFinite 114 = .ok (.lload 12, 2) := by decide +kernel
theorem d_A_productOfFinite_116 : decode c_A_productOfFinite 116 = .ok (.ldc2_w 60, 3) := by decide +kernel
theorem d_A_productOfFinite_119 : decode c_A_productOfFinite 119 = .ok (.land, 1) := by decide +kernel
theorem d_A_productOfFinite_120 : decode c_A_productOfFinite 120 = .ok (.lor, 1) := by decide +kernel
theorem d_A_productOfFinite_121 : decode c_A_productOfFinite 121 = .ok (.lstore 18, 2) := by decide +kernel
theorem d_A_productOfFinite_123 : decode c_A_productOfFinite 123 = .ok (.lload 16, 2) := by decide +kernel
theorem d_A_productOfFinite_125 : decode c_A_productOfFinite 125 = .ok (.bipush 8, 2) := by decide +kernel
theorem d_A_productOfFinite_127 : decode c_A_productOfFinite 127 = .ok (.lshl, 1) := by decide +kernel
theorem d_A_productOfFinite_128 : decode c_A_productOfFinite 128 = .ok (.lload 18, 2) := by decide +kernel
theorem d_A_productOfFinite_130 : decode c_A_productOfFinite 130 = .ok (.bipush 44, 2) := by decide +kernel
theorem d_A_productOfFinite_132 : decode c_A_productOfFinite 132 = .ok (.invokestatic 40, 3) := by decide +kernel
theorem d_A_productOfFinite_135 : decode c_A_productOfFinite 135 = .ok (.lor, 1) := by decide +kernel
theorem d_A_productOfFinite_136 : decode c_A_productOfFinite 136 = .ok (.lstore 20, 2) := by decide +kernel
theorem d_A_productOfFinite_138 : decode c_A_productOfFinite 138 = .ok (.lload_n 2, 1) := by decide +kernel
theorem d_A_productOfFinite_139 : decode c_A_productOfFinite 139 = .ok (.invokestatic 33, 3) := by decide +kernel
theorem d_A_productOfFinite_142 : decode c_A_productOfFinite 142 = .ok (.iload 6, 2) := by decide +kernel
theorem d_A_productOfFinite_144 : decode c_A_productOfFinite 144 = .ok (.isub, 1) := by decide +kernel
theorem d_A_productOfFinite_145 : decode c_A_productOfFinite 145 = .ok (.lload 4, 2) := by decide +kernel
theorem d_A_productOfFinite_147 : decode c_A_productOfFinite 147 = .ok (.invokestatic 33, 3) := by decide +kernel
theorem d_A_productOfFinite_150 : decode c_A_productOfFinite 150 = .ok (.iadd, 1) := by decide +kernel
theorem d_A_productOfFinite_151 : decode c_A_productOfFinite 151 = .ok (.iload 7, 2) := by decide +kernel
theorem d_A_productOfFinite_153 : decode c_A_productOfFinite 153 = .ok (.isub, 1) := by decide +kernel
theorem d_A_productOfFinite_154 : decode c_A_productOfFinite 154 = .ok (.bipush 44, 2) := by decide +kernel
theorem d_A_productOfFinite_156 : decode c_A_productOfFinite 156 = .ok (.iadd, 1) := by decide +kernel
theorem d_A_productOfFinite_157 : decode c_A_productOfFinite 157 = .ok (.istore 22, 2) := by decide +kernel
theorem d_A_productOfFinite_159 : decode c_A_productOfFinite 159 = .ok (.lload_n 0, 1) := by decide +kernel
theorem d_A_productOfFinite_160 : decode c_A_productOfFinite 160 = .ok (.lload 20, 2) := by decide +kernel
theorem d_A_productOfFinite_162 : decode c_A_productOfFinite 162 = .ok (.iload 22, 2) := by decide +kernel
theorem d_A_productOfFinite_164 : decode c_A_productOfFinite 164 = .ok (.invokestatic 44, 3) := by decide +kernel
theorem d_A_productOfFinite_167 : decode c_A_productOfFinite 167 = .ok (.lreturn, 1) := by decide +kernel
theorem zn_A_57 : zNS R_A 57 y_B_lift c_B_lift 2 (some .int) 1 := ⟨zco_B_lift, zin_B, zml_A_57, zst_B_lift, by decide +kernel⟩
set_option maxHeartbeats 4000000 in
set_option maxRecDepth 100000 in
theorem k_A_productOfFinite (κ : zC) (X : zXT) (hX : zX κ X) (l : Launch) (sz : Nat) (x0 : Int64) (x2 : Int64) (x4 : Int64) (out : Int64) (hf : f_A_productOfFinite x0 x2 x4 = some out) : zMet κ X l y_A_productOfFinite c_A_productOfFinite 23 (some .long) 3 72 [.long x0, .long x2, .long x4] sz [] (zQl κ (fun (r : Int64) (_ : Unit) => r = out) (fun u => [])) := by
  refine zMet.ofL (by decide +kernel) (Nat.le_of_ble_eq_true rfl) ?_
  intro p e s m args below meth c ls A Q hF hK hP hD hA hXs hS hl hret
  obtain ⟨hx, hb, hml, hown, hts⟩ := id hF
  obtain ⟨H, hH⟩ : ∃ H, H = s.heap := ⟨_, rfl⟩
  obtain ⟨locs, hlo⟩ : ∃ z : List Loc, z = [] := ⟨_, rfl⟩
  replace hP : zP κ [] H := by rw [hH]; exact hP
  replace hS : va_S A s.heap H locs := by rw [hH, hlo]; exact hS
  suffices hgo : W p l e (zR 3 72) s m args below meth c H locs 0 0 Q (F0 m 0 ls []) by rw [hH, hlo] at hgo; exact hgo
  clear hH hlo
  replace hl : lv_has ls 23 [(0, .long x0), (2, .long x2), (4, .long x4)] := hl
  unfold f_A_productOfFinite at hf
  refine lv_lload_n hx hb d_A_productOfFinite_0 rfl (lv_at hl 1 rfl) ?_
  obtain ⟨o_1, ho_1, hf⟩ := zbd hf
  refine zSl (isC := []) (isR := []) (isN := []) (wc := []) (wr := []) (wn := fun u => []) (rest := []) (As := [.long x2]) hF zn_A_37 (k_B_mantissa κ X hX l H.size x2 o_1 ho_1) hX hXs hK hA hP hD hS ⟨by decide, by decide⟩ ⟨rfl, rfl, rfl, rfl, rfl, by decide⟩ ⟨rfl, fun _ => rfl, fun _ => rfl⟩ rfl hl.1 rfl (Nat.le_of_ble_eq_true rfl) ⟨Nat.zero_le _, Nat.zero_le _⟩ d_A_productOfFinite_1 (fun r_1 u H locs hw hP hD hS => ?_)
  subst hw
  obtain ⟨o_4, ho_4, hf⟩ := zbd hf
  refine zSi (isC := []) (isR := []) (isN := []) (wc := []) (wr := []) (wn := fun u => []) (rest := []) (As := [.long r_1]) hF zn_A_57 (k_B_lift κ X hX l H.size r_1 o_4 ho_4) hX hXs hK hA hP hD hS ⟨by decide, by decide⟩ ⟨rfl, rfl, rfl, rfl, rfl, by decide⟩ ⟨rfl, fun _ => rfl, fun _ => rfl⟩ rfl hl.1 rfl (Nat.le_of_ble_eq_true rfl) ⟨Nat.zero_le _, Nat.zero_le _⟩ d_A_productOfFinite_4 (fun r_4 u H locs hw hP hD hS => ?_)
  subst hw
  refine lv_istore (lv' := [(6, .int r_4), (0, .long x0), (2, .long x2), (4, .long x4)]) hx hb d_A_productOfFinite_7 hl (by decide) rfl (fun ls hl => ?_)
  refine lv_lload hx hb d_A_productOfFinite_9 (lv_at hl 3 rfl) ?_
  obtain ⟨o_11, ho_11, hf⟩ := zbd hf
  refine zSl (isC := []) (isR := []) (isN := []) (wc := []) (wr := []) (wn := fun u => []) (rest := []) (As := [.long x4]) hF zn_A_37 (k_B_mantissa κ X hX l H.size x4 o_11 ho_11) hX hXs hK hA hP hD hS ⟨by decide, by decide⟩ ⟨rfl, rfl, rfl, rfl, rfl, by decide⟩ ⟨rfl, fun _ => rfl, fun _ => rfl⟩ rfl hl.1 rfl (Nat.le_of_ble_eq_true rfl) ⟨Nat.zero_le _, Nat.zero_le _⟩ d_A_productOfFinite_11 (fun r_11 u H locs hw hP hD hS => ?_)
  subst hw
  obtain ⟨o_14, ho_14, hf⟩ := zbd hf
  refine zSi (isC := []) (isR := []) (isN := []) (wc := []) (wr := []) (wn := fun u => []) (rest := []) (As := [.long r_11]) hF zn_A_57 (k_B_lift κ X hX l H.size r_11 o_14 ho_14) hX hXs hK hA hP hD hS ⟨by decide, by decide⟩ ⟨rfl, rfl, rfl, rfl, rfl, by decide⟩ ⟨rfl, fun _ => rfl, fun _ => rfl⟩ rfl hl.1 rfl (Nat.le_of_ble_eq_true rfl) ⟨Nat.zero_le _, Nat.zero_le _⟩ d_A_productOfFinite_14 (fun r_14 u H locs hw hP hD hS => ?_)
  subst hw
  refine lv_istore (lv' := [(7, .int r_14), (6, .int r_4), (0, .long x0), (2, .long x2), (4, .long x4)]) hx hb d_A_productOfFinite_17 hl (by decide) rfl (fun ls hl => ?_)
  refine lv_lload_n hx hb d_A_productOfFinite_19 rfl (lv_at hl 3 rfl) ?_
  obtain ⟨o_20, ho_20, hf⟩ := zbd hf
  refine zSl (isC := []) (isR := []) (isN := []) (wc := []) (wr := []) (wn := fun u => []) (rest := []) (As := [.long x2]) hF zn_A_37 (k_B_mantissa κ X hX l H.size x2 o_20 ho_20) hX hXs hK hA hP hD hS ⟨by decide, by decide⟩ ⟨rfl, rfl, rfl, rfl, rfl, by decide⟩ ⟨rfl, fun _ => rfl, fun _ => rfl⟩ rfl hl.1 rfl (Nat.le_of_ble_eq_true rfl) ⟨Nat.zero_le _, Nat.zero_le _⟩ d_A_productOfFinite_20 (fun r_20 u H locs hw hP hD hS => ?_)
  subst hw
  refine lv_iload hx hb d_A_productOfFinite_23 (lv_at hl 1 rfl) ?_
  refine lv_lshl (v := (jlshl r_20 r_4)) hx hb d_A_productOfFinite_25 rfl ?_
  refine lv_lstore (lv' := [(8, .long (jlshl r_20 r_4)), (7, .int r_14), (6, .int r_4), (0, .long x0), (2, .long x2), (4, .long x4)]) hx hb d_A_productOfFinite_26 hl (by decide) rfl (fun ls hl => ?_)
  refine lv_lload hx hb d_A_productOfFinite_28 (lv_at hl 5 rfl) ?_
  obtain ⟨o_30, ho_30, hf⟩ := zbd hf
  refine zSl (isC := []) (isR := []) (isN := []) (wc := []) (wr := []) (wn := fun u => []) (rest := []) (As := [.long x4]) hF zn_A_37 (k_B_mantissa κ X hX l H.size x4 o_30 ho_30) hX hXs hK hA hP hD hS ⟨by decide, by decide⟩ ⟨rfl, rfl, rfl, rfl, rfl, by decide⟩ ⟨rfl, fun _ => rfl, fun _ => rfl⟩ rfl hl.1 rfl (Nat.le_of_ble_eq_true rfl) ⟨Nat.zero_le _, Nat.zero_le _⟩ d_A_productOfFinite_30 (fun r_30 u H locs hw hP hD hS => ?_)
  subst hw
  refine lv_iload hx hb d_A_productOfFinite_33 (lv_at hl 1 rfl) ?_
  refine lv_lshl (v := (jlshl r_30 r_14)) hx hb d_A_productOfFinite_35 rfl ?_
  refine lv_lstore (lv' := [(10, .long (jlshl r_30 r_14)), (8, .long (jlshl r_20 r_4)), (7, .int r_14), (6, .int r_4), (0, .long x0), (2, .long x2), (4, .long x4)]) hx hb d_A_productOfFinite_36 hl (by decide) rfl (fun ls hl => ?_)
  refine lv_lload hx hb d_A_productOfFinite_38 (lv_at hl 1 rfl) ?_
  refine lv_ldc2 (v := 67108863) hx hb hown (hts _ zkl_A_60) d_A_productOfFinite_40 ?_
  refine lv_land hx hb d_A_productOfFinite_43 ?_
  refine lv_lload hx hb d_A_productOfFinite_44 (lv_at hl 0 rfl) ?_
  refine lv_ldc2 (v := 67108863) hx hb hown (hts _ zkl_A_60) d_A_productOfFinite_46 ?_
  refine lv_land hx hb d_A_productOfFinite_49 ?_
  refine lv_lmul hx hb d_A_productOfFinite_50 ?_
  refine lv_lstore (lv' := [(12, .long (((jlshl r_20 r_4) &&& 67108863) * ((jlshl r_30 r_14) &&& 67108863))), (10, .long (jlshl r_30 r_14)), (8, .long (jlshl r_20 r_4)), (7, .int r_14), (6, .int r_4), (0, .long x0), (2, .long x2), (4, .long x4)]) hx hb d_A_productOfFinite_51 hl (by decide) rfl (fun ls hl => ?_)
  refine lv_lload hx hb d_A_productOfFinite_53 (lv_at hl 2 rfl) ?_
  refine lv_bipush (v := 26) hx hb d_A_productOfFinite_55 (by decide) ?_
  refine lv_lushr (v := (jlushr (jlshl r_20 r_4) 26)) hx hb d_A_productOfFinite_57 rfl ?_
  refine lv_lload hx hb d_A_productOfFinite_58 (lv_at hl 1 rfl) ?_
  refine lv_ldc2 (v := 67108863) hx hb hown (hts _ zkl_A_60) d_A_productOfFinite_60 ?_
  refine lv_land hx hb d_A_productOfFinite_63 ?_
  refine lv_lmul hx hb d_A_productOfFinite_64 ?_
  refine lv_lload hx hb d_A_productOfFinite_65 (lv_at hl 2 rfl) ?_
  refine lv_ldc2 (v := 67108863) hx hb hown (hts _ zkl_A_60) d_A_productOfFinite_67 ?_
  refine lv_land hx hb d_A_productOfFinite_70 ?_
  refine lv_lload hx hb d_A_productOfFinite_71 (lv_at hl 1 rfl) ?_
  refine lv_bipush (v := 26) hx hb d_A_productOfFinite_73 (by decide) ?_
  refine lv_lushr (v := (jlushr (jlshl r_30 r_14) 26)) hx hb d_A_productOfFinite_75 rfl ?_
  refine lv_lmul hx hb d_A_productOfFinite_76 ?_
  refine lv_ladd hx hb d_A_productOfFinite_77 ?_
  refine lv_lload hx hb d_A_productOfFinite_78 (lv_at hl 0 rfl) ?_
  refine lv_bipush (v := 26) hx hb d_A_productOfFinite_80 (by decide) ?_
  refine lv_lushr (v := (jlushr (((jlshl r_20 r_4) &&& 67108863) * ((jlshl r_30 r_14) &&& 67108863)) 26)) hx hb d_A_productOfFinite_82 rfl ?_
  refine lv_ladd hx hb d_A_productOfFinite_83 ?_
  refine lv_lstore (lv' := [(14, .long ((((jlushr (jlshl r_20 r_4) 26) * ((jlshl r_30 r_14) &&& 67108863)) + (((jlshl r_20 r_4) &&& 67108863) * (jlushr (jlshl r_30 r_14) 26))) + (jlushr (((jlshl r_20 r_4) &&& 67108863) * ((jlshl r_30 r_14) &&& 67108863)) 26))), (12, .long (((jlshl r_20 r_4) &&& 67108863) * ((jlshl r_30 r_14) &&& 67108863))), (10, .long (jlshl r_30 r_14)), (8, .long (jlshl r_20 r_4)), (7, .int r_14), (6, .int r_4), (0, .long x0), (2, .long x2), (4, .long x4)]) hx hb d_A_productOfFinite_84 hl (by decide) rfl (fun ls hl => ?_)
  refine lv_lload hx hb d_A_productOfFinite_86 (lv_at hl 3 rfl) ?_
  refine lv_bipush (v := 26) hx hb d_A_productOfFinite_88 (by decide) ?_
  refine lv_lushr (v := (jlushr (jlshl r_20 r_4) 26)) hx hb d_A_productOfFinite_90 rfl ?_
  refine lv_lload hx hb d_A_productOfFinite_91 (lv_at hl 2 rfl) ?_
  refine lv_bipush (v := 26) hx hb d_A_productOfFinite_93 (by decide) ?_
  refine lv_lushr (v := (jlushr (jlshl r_30 r_14) 26)) hx hb d_A_productOfFinite_95 rfl ?_
  refine lv_lmul hx hb d_A_productOfFinite_96 ?_
  refine lv_lload hx hb d_A_productOfFinite_97 (lv_at hl 0 rfl) ?_
  refine lv_bipush (v := 26) hx hb d_A_productOfFinite_99 (by decide) ?_
  refine lv_lushr (v := (jlushr ((((jlushr (jlshl r_20 r_4) 26) * ((jlshl r_30 r_14) &&& 67108863)) + (((jlshl r_20 r_4) &&& 67108863) * (jlushr (jlshl r_30 r_14) 26))) + (jlushr (((jlshl r_20 r_4) &&& 67108863) * ((jlshl r_30 r_14) &&& 67108863)) 26)) 26)) hx hb d_A_productOfFinite_101 rfl ?_
  refine lv_ladd hx hb d_A_productOfFinite_102 ?_
  refine lv_lstore (lv' := [(16, .long (((jlushr (jlshl r_20 r_4) 26) * (jlushr (jlshl r_30 r_14) 26)) + (jlushr ((((jlushr (jlshl r_20 r_4) 26) * ((jlshl r_30 r_14) &&& 67108863)) + (((jlshl r_20 r_4) &&& 67108863) * (jlushr (jlshl r_30 r_14) 26))) + (jlushr (((jlshl r_20 r_4) &&& 67108863) * ((jlshl r_30 r_14) &&& 67108863)) 26)) 26))), (14, .long ((((jlushr (jlshl r_20 r_4) 26) * ((jlshl r_30 r_14) &&& 67108863)) + (((jlshl r_20 r_4) &&& 67108863) * (jlushr (jlshl r_30 r_14) 26))) + (jlushr (((jlshl r_20 r_4) &&& 67108863) * ((jlshl r_30 r_14) &&& 67108863)) 26))), (12, .long (((jlshl r_20 r_4) &&& 67108863) * ((jlshl r_30 r_14) &&& 67108863))), (10, .long (jlshl r_30 r_14)), (8, .long (jlshl r_20 r_4)), (7, .int r_14), (6, .int r_4), (0, .long x0), (2, .long x2), (4, .long x4)]) hx hb d_A_productOfFinite_103 hl (by decide) rfl (fun ls hl => ?_)
  refine lv_lload hx hb d_A_productOfFinite_105 (lv_at hl 1 rfl) ?_
  refine lv_ldc2 (v := 67108863) hx hb hown (hts _ zkl_A_60) d_A_productOfFinite_107 ?_
  refine lv_land hx hb d_A_productOfFinite_110 ?_
  refine lv_bipush (v := 26) hx hb d_A_productOfFinite_111 (by decide) ?_
  refine lv_lshl (v := (jlshl (((((jlushr (jlshl r_20 r_4) 26) * ((jlshl r_30 r_14) &&& 67108863)) + (((jlshl r_20 r_4) &&& 67108863) * (jlushr (jlshl r_30 r_14) 26))) + (jlushr (((jlshl r_20 r_4) &&& 67108863) * ((jlshl r_30 r_14) &&& 67108863)) 26)) &&& 67108863) 26)) hx hb d_A_productOfFinite_113 rfl ?_
  refine lv_lload hx hb d_A_productOfFinite_114 (lv_at hl 2 rfl) ?_
  refine lv_ldc2 (v := 67108863) hx hb hown (hts _ zkl_A_60) d_A_productOfFinite_116 ?_
  refine lv_land hx hb d_A_productOfFinite_119 ?_
  refine lv_lor hx hb d_A_productOfFinite_120 ?_
  refine lv_lstore (lv' := [(18, .long ((jlshl (((((jlushr (jlshl r_20 r_4) 26) * ((jlshl r_30 r_14) &&& 67108863)) + (((jlshl r_20 r_4) &&& 67108863) * (jlushr (jlshl r_30 r_14) 26))) + (jlushr (((jlshl r_20 r_4) &&& 67108863) * ((jlshl r_30 r_14) &&& 67108863)) 26)) &&& 67108863) 26) ||| ((((jlshl r_20 r_4) &&& 67108863) * ((jlshl r_30 r_14) &&& 67108863)) &&& 67108863))), (16, .long (((jlushr (jlshl r_20 r_4) 26) * (jlushr (jlshl r_30 r_14) 26)) + (jlushr ((((jlushr (jlshl r_20 r_4) 26) * ((jlshl r_30 r_14) &&& 67108863)) + (((jlshl r_20 r_4) &&& 67108863) * (jlushr (jlshl r_30 r_14) 26))) + (jlushr (((jlshl r_20 r_4) &&& 67108863) * ((jlshl r_30 r_14) &&& 67108863)) 26)) 26))), (14, .long ((((jlushr (jlshl r_20 r_4) 26) * ((jlshl r_30 r_14) &&& 67108863)) + (((jlshl r_20 r_4) &&& 67108863) * (jlushr (jlshl r_30 r_14) 26))) + (jlushr (((jlshl r_20 r_4) &&& 67108863) * ((jlshl r_30 r_14) &&& 67108863)) 26))), (12, .long (((jlshl r_20 r_4) &&& 67108863) * ((jlshl r_30 r_14) &&& 67108863))), (10, .long (jlshl r_30 r_14)), (8, .long (jlshl r_20 r_4)), (7, .int r_14), (6, .int r_4), (0, .long x0), (2, .long x2), (4, .long x4)]) hx hb d_A_productOfFinite_121 hl (by decide) rfl (fun ls hl => ?_)
  refine lv_lload hx hb d_A_productOfFinite_123 (lv_at hl 1 rfl) ?_
  refine lv_bipush (v := 8) hx hb d_A_productOfFinite_125 (by decide) ?_
  refine lv_lshl (v := (jlshl (((jlushr (jlshl r_20 r_4) 26) * (jlushr (jlshl r_30 r_14) 26)) + (jlushr ((((jlushr (jlshl r_20 r_4) 26) * ((jlshl r_30 r_14) &&& 67108863)) + (((jlshl r_20 r_4) &&& 67108863) * (jlushr (jlshl r_30 r_14) 26))) + (jlushr (((jlshl r_20 r_4) &&& 67108863) * ((jlshl r_30 r_14) &&& 67108863)) 26)) 26)) 8)) hx hb d_A_productOfFinite_127 rfl ?_
  refine lv_lload hx hb d_A_productOfFinite_128 (lv_at hl 0 rfl) ?_
  refine lv_bipush (v := 44) hx hb d_A_productOfFinite_130 (by decide) ?_
  obtain ⟨o_132, ho_132, hf⟩ := zbd hf
  refine zSl (isC := []) (isR := []) (isN := []) (wc := []) (wr := []) (wn := fun u => []) (rest := [.long (jlshl (((jlushr (jlshl r_20 r_4) 26) * (jlushr (jlshl r_30 r_14) 26)) + (jlushr ((((jlushr (jlshl r_20 r_4) 26) * ((jlshl r_30 r_14) &&& 67108863)) + (((jlshl r_20 r_4) &&& 67108863) * (jlushr (jlshl r_30 r_14) 26))) + (jlushr (((jlshl r_20 r_4) &&& 67108863) * ((jlshl r_30 r_14) &&& 67108863)) 26)) 26)) 8)]) (As := [.long ((jlshl (((((jlushr (jlshl r_20 r_4) 26) * ((jlshl r_30 r_14) &&& 67108863)) + (((jlshl r_20 r_4) &&& 67108863) * (jlushr (jlshl r_30 r_14) 26))) + (jlushr (((jlshl r_20 r_4) &&& 67108863) * ((jlshl r_30 r_14) &&& 67108863)) 26)) &&& 67108863) 26) ||| ((((jlshl r_20 r_4) &&& 67108863) * ((jlshl r_30 r_14) &&& 67108863)) &&& 67108863)), .int 44]) hF zn_A_40 (k_B_shiftDownWithTrace κ X hX l H.size ((jlshl (((((jlushr (jlshl r_20 r_4) 26) * ((jlshl r_30 r_14) &&& 67108863)) + (((jlshl r_20 r_4) &&& 67108863) * (jlushr (jlshl r_30 r_14) 26))) + (jlushr (((jlshl r_20 r_4) &&& 67108863) * ((jlshl r_30 r_14) &&& 67108863)) 26)) &&& 67108863) 26) ||| ((((jlshl r_20 r_4) &&& 67108863) * ((jlshl r_30 r_14) &&& 67108863)) &&& 67108863)) 44 o_132 ho_132) hX hXs hK hA hP hD hS ⟨by decide, by decide⟩ ⟨rfl, rfl, rfl, rfl, rfl, by decide⟩ ⟨rfl, fun _ => rfl, fun _ => rfl⟩ rfl hl.1 rfl (Nat.le_of_ble_eq_true rfl) ⟨Nat.zero_le _, Nat.zero_le _⟩ d_A_productOfFinite_132 (fun r_132 u H locs hw hP hD hS => ?_)
  subst hw
  refine lv_lor hx hb d_A_productOfFinite_135 ?_
  refine lv_lstore (lv' := [(20, .long ((jlshl (((jlushr (jlshl r_20 r_4) 26) * (jlushr (jlshl r_30 r_14) 26)) + (jlushr ((((jlushr (jlshl r_20 r_4) 26) * ((jlshl r_30 r_14) &&& 67108863)) + (((jlshl r_20 r_4) &&& 67108863) * (jlushr (jlshl r_30 r_14) 26))) + (jlushr (((jlshl r_20 r_4) &&& 67108863) * ((jlshl r_30 r_14) &&& 67108863)) 26)) 26)) 8) ||| r_132)), (18, .long ((jlshl (((((jlushr (jlshl r_20 r_4) 26) * ((jlshl r_30 r_14) &&& 67108863)) + (((jlshl r_20 r_4) &&& 67108863) * (jlushr (jlshl r_30 r_14) 26))) + (jlushr (((jlshl r_20 r_4) &&& 67108863) * ((jlshl r_30 r_14) &&& 67108863)) 26)) &&& 67108863) 26) ||| ((((jlshl r_20 r_4) &&& 67108863) * ((jlshl r_30 r_14) &&& 67108863)) &&& 67108863))), (16, .long (((jlushr (jlshl r_20 r_4) 26) * (jlushr (jlshl r_30 r_14) 26)) + (jlushr ((((jlushr (jlshl r_20 r_4) 26) * ((jlshl r_30 r_14) &&& 67108863)) + (((jlshl r_20 r_4) &&& 67108863) * (jlushr (jlshl r_30 r_14) 26))) + (jlushr (((jlshl r_20 r_4) &&& 67108863) * ((jlshl r_30 r_14) &&& 67108863)) 26)) 26))), (14, .long ((((jlushr (jlshl r_20 r_4) 26) * ((jlshl r_30 r_14) &&& 67108863)) + (((jlshl r_20 r_4) &&& 67108863) * (jlushr (jlshl r_30 r_14) 26))) + (jlushr (((jlshl r_20 r_4) &&& 67108863) * ((jlshl r_30 r_14) &&& 67108863)) 26))), (12, .long (((jlshl r_20 r_4) &&& 67108863) * ((jlshl r_30 r_14) &&& 67108863))), (10, .long (jlshl r_30 r_14)), (8, .long (jlshl r_20 r_4)), (7, .int r_14), (6, .int r_4), (0, .long x0), (2, .long x2), (4, .long x4)]) hx hb d_A_productOfFinite_136 hl (by decide) rfl (fun ls hl => ?_)
  refine lv_lload_n hx hb d_A_productOfFinite_138 rfl (lv_at hl 10 rfl) ?_
  obtain ⟨o_139, ho_139, hf⟩ := zbd hf
  refine zSi (isC := []) (isR := []) (isN := []) (wc := []) (wr := []) (wn := fun u => []) (rest := []) (As := [.long x2]) hF zn_A_33 (k_B_exponent κ X hX l H.size x2 o_139 ho_139) hX hXs hK hA hP hD hS ⟨by decide, by decide⟩ ⟨rfl, rfl, rfl, rfl, rfl, by decide⟩ ⟨rfl, fun _ => rfl, fun _ => rfl⟩ rfl hl.1 rfl (Nat.le_of_ble_eq_true rfl) ⟨Nat.zero_le _, Nat.zero_le _⟩ d_A_productOfFinite_139 (fun r_139 u H locs hw hP hD hS => ?_)
  subst hw
  refine lv_iload hx hb d_A_productOfFinite_142 (lv_at hl 8 rfl) ?_
  refine lv_isub hx hb d_A_productOfFinite_144 ?_
  refine lv_lload hx hb d_A_productOfFinite_145 (lv_at hl 11 rfl) ?_
  obtain ⟨o_147, ho_147, hf⟩ := zbd hf
  refine zSi (isC := []) (isR := []) (isN := []) (wc := []) (wr := []) (wn := fun u => []) (rest := [.int (r_139 - r_4)]) (As := [.long x4]) hF zn_A_33 (k_B_exponent κ X hX l H.size x4 o_147 ho_147) hX hXs hK hA hP hD hS ⟨by decide, by decide⟩ ⟨rfl, rfl, rfl, rfl, rfl, by decide⟩ ⟨rfl, fun _ => rfl, fun _ => rfl⟩ rfl hl.1 rfl (Nat.le_of_ble_eq_true rfl) ⟨Nat.zero_le _, Nat.zero_le _⟩ d_A_productOfFinite_147 (fun r_147 u H locs hw hP hD hS => ?_)
  subst hw
  refine lv_iadd hx hb d_A_productOfFinite_150 ?_
  refine lv_iload hx hb d_A_productOfFinite_151 (lv_at hl 7 rfl) ?_
  refine lv_isub hx hb d_A_productOfFinite_153 ?_
  refine lv_bipush (v := 44) hx hb d_A_productOfFinite_154 (by decide) ?_
  refine lv_iadd hx hb d_A_productOfFinite_156 ?_
  refine lv_istore (lv' := [(22, .int ((((r_139 - r_4) + r_147) - r_14) + 44)), (20, .long ((jlshl (((jlushr (jlshl r_20 r_4) 26) * (jlushr (jlshl r_30 r_14) 26)) + (jlushr ((((jlushr (jlshl r_20 r_4) 26) * ((jlshl r_30 r_14) &&& 67108863)) + (((jlshl r_20 r_4) &&& 67108863) * (jlushr (jlshl r_30 r_14) 26))) + (jlushr (((jlshl r_20 r_4) &&& 67108863) * ((jlshl r_30 r_14) &&& 67108863)) 26)) 26)) 8) ||| r_132)), (18, .long ((jlshl (((((jlushr (jlshl r_20 r_4) 26) * ((jlshl r_30 r_14) &&& 67108863)) + (((jlshl r_20 r_4) &&& 67108863) * (jlushr (jlshl r_30 r_14) 26))) + (jlushr (((jlshl r_20 r_4) &&& 67108863) * ((jlshl r_30 r_14) &&& 67108863)) 26)) &&& 67108863) 26) ||| ((((jlshl r_20 r_4) &&& 67108863) * ((jlshl r_30 r_14) &&& 67108863)) &&& 67108863))), (16, .long (((jlushr (jlshl r_20 r_4) 26) * (jlushr (jlshl r_30 r_14) 26)) + (jlushr ((((jlushr (jlshl r_20 r_4) 26) * ((jlshl r_30 r_14) &&& 67108863)) + (((jlshl r_20 r_4) &&& 67108863) * (jlushr (jlshl r_30 r_14) 26))) + (jlushr (((jlshl r_20 r_4) &&& 67108863) * ((jlshl r_30 r_14) &&& 67108863)) 26)) 26))), (14, .long ((((jlushr (jlshl r_20 r_4) 26) * ((jlshl r_30 r_14) &&& 67108863)) + (((jlshl r_20 r_4) &&& 67108863) * (jlushr (jlshl r_30 r_14) 26))) + (jlushr (((jlshl r_20 r_4) &&& 67108863) * ((jlshl r_30 r_14) &&& 67108863)) 26))), (12, .long (((jlshl r_20 r_4) &&& 67108863) * ((jlshl r_30 r_14) &&& 67108863))), (10, .long (jlshl r_30 r_14)), (8, .long (jlshl r_20 r_4)), (7, .int r_14), (6, .int r_4), (0, .long x0), (2, .long x2), (4, .long x4)]) hx hb d_A_productOfFinite_157 hl (by decide) rfl (fun ls hl => ?_)
  refine lv_lload_n hx hb d_A_productOfFinite_159 rfl (lv_at hl 10 rfl) ?_
  refine lv_lload hx hb d_A_productOfFinite_160 (lv_at hl 1 rfl) ?_
  refine lv_iload hx hb d_A_productOfFinite_162 (lv_at hl 0 rfl) ?_
  obtain ⟨o_164, ho_164, hf⟩ := zbd hf
  refine zSl (isC := []) (isR := []) (isN := []) (wc := []) (wr := []) (wn := fun u => []) (rest := []) (As := [.long x0, .long ((jlshl (((jlushr (jlshl r_20 r_4) 26) * (jlushr (jlshl r_30 r_14) 26)) + (jlushr ((((jlushr (jlshl r_20 r_4) 26) * ((jlshl r_30 r_14) &&& 67108863)) + (((jlshl r_20 r_4) &&& 67108863) * (jlushr (jlshl r_30 r_14) 26))) + (jlushr (((jlshl r_20 r_4) &&& 67108863) * ((jlshl r_30 r_14) &&& 67108863)) 26)) 26)) 8) ||| r_132), .int ((((r_139 - r_4) + r_147) - r_14) + 44)]) hF zn_A_44 (k_B_round κ X hX l H.size x0 ((jlshl (((jlushr (jlshl r_20 r_4) 26) * (jlushr (jlshl r_30 r_14) 26)) + (jlushr ((((jlushr (jlshl r_20 r_4) 26) * ((jlshl r_30 r_14) &&& 67108863)) + (((jlshl r_20 r_4) &&& 67108863) * (jlushr (jlshl r_30 r_14) 26))) + (jlushr (((jlshl r_20 r_4) &&& 67108863) * ((jlshl r_30 r_14) &&& 67108863)) 26)) 26)) 8) ||| r_132) ((((r_139 - r_4) + r_147) - r_14) + 44) o_164 ho_164) hX hXs hK hA hP hD hS ⟨by decide, by decide⟩ ⟨rfl, rfl, rfl, rfl, rfl, by decide⟩ ⟨rfl, fun _ => rfl, fun _ => rfl⟩ rfl hl.1 rfl (Nat.le_of_ble_eq_true rfl) ⟨Nat.zero_le _, Nat.zero_le _⟩ d_A_productOfFinite_164 (fun r_164 u H locs hw hP hD hS => ?_)
  subst hw
  exact hret (r_164) () H locs ls _ d_A_productOfFinite_167 hP hD hS (Option.some.inj hf)
theorem d_A_product_0 : decode c_A_product 0 = .ok (.lload_n 0, 1) := by decide +kernel
theorem d_A_product_1 : decode c_A_product 1 = .ok (.invokestatic 9, 3) := by decide +kernel
theorem d_A_product_4 : decode c_A_product 4 = .ok (.ifCond .ne 10, 3) := by decide +kernel
theorem d_A_product_7 : decode c_A_product 7 = .ok (.lload_n 2, 1) := by decide +kernel
theorem d_A_product_8 : decode c_A_product 8 = .ok (.invokestatic 9, 3) := by decide +kernel
theorem d_A_product_11 : decode c_A_product 11 = .ok (.ifCond .eq 7, 3) := by decide +kernel
theorem d_A_product_14 : decode c_A_product 14 = .ok (.ldc2_w 15, 3) := by decide +kernel
theorem d_A_product_17 : decode c_A_product 17 = .ok (.lreturn, 1) := by decide +kernel
theorem d_A_product_18 : decode c_A_product 18 = .ok (.lload_n 0, 1) := by decide +kernel
theorem d_A_product_19 : decode c_A_product 19 = .ok (.lload_n 2, 1) := by decide +kernel
theorem d_A_product_20 : decode c_A_product 20 = .ok (.lxor, 1) := by decide +kernel
theorem d_A_product_21 : decode c_A_product 21 = .ok (.ldc2_w 28, 3) := by decide +kernel
theorem d_A_product_24 : decode c_A_product 24 = .ok (.land, 1) := by decide +kernel
theorem d_A_product_25 : decode c_A_product 25 = .ok (.lstore 4, 2) := by decide +kernel
theorem d_A_product_27 : decode c_A_product 27 = .ok (.lload_n 0, 1) := by decide +kernel
theorem d_A_product_28 : decode c_A_product 28 = .ok (.invokestatic 48, 3) := by decide +kernel
theorem d_A_product_31 : decode c_A_product 31 = .ok (.ifCond .ne 10, 3) := by decide +kernel
theorem d_A_product_34 : decode c_A_product 34 = .ok (.lload_n 2, 1) := by decide +kernel
theorem d_A_product_35 : decode c_A_product 35 = .ok (.invokestatic 48, 3) := by decide +kernel
theorem d_A_product_38 : decode c_A_product 38 = .ok (.ifCond .eq 7, 3) := by decide +kernel
theorem d_A_product_41 : decode c_A_product 41 = .ok (.iconst 1, 1) := by decide +kernel
theorem d_A_product_42 : decode c_A_product 42 = .ok (.goto 4, 3) := by decide +kernel
theorem d_A_product_45 : decode c_A_product 45 = .ok (.iconst 0, 1) := by decide +kernel
theorem d_A_product_46 : decode c_A_product 46 = .ok (.istore 6, 2) := by decide +kernel
theorem d_A_product_48 : decode c_A_product 48 = .ok (.lload_n 0, 1) := by decide +kernel
theorem d_A_product_49 : decode c_A_product 49 = .ok (.invokestatic 17, 3) := by decide +kernel
theorem d_A_product_52 : decode c_A_product 52 = .ok (.ifCond .ne 10, 3) := by decide +kernel
theorem d_A_product_55 : decode c_A_product 55 = .ok (.lload_n 2, 1) := by decide +kernel
theorem d_A_product_56 : decode c_A_product 56 = .ok (.invokestatic 17, 3) := by decide +kernel
theorem d_A_product_59 : decode c_A_product 59 = .ok (.ifCond .eq 21, 3) := by decide +kernel
theorem d_A_product_62 : decode c_A_product 62 = .ok (.iload 6, 2) := by decide +kernel
theorem d_A_product_64 : decode c_A_product 64 = .ok (.ifCond .eq 9, 3) := by decide +kernel
theorem d_A_product_67 : decode c_A_product 67 = .ok (.ldc2_w 15, 3) := by decide +kernel
theorem d_A_product_70 : decode c_A_product 70 = .ok (.goto 9, 3) := by decide +kernel
theorem d_A_product_73 : decode c_A_product 73 = .ok (.lload 4, 2) := by decide +kernel
theorem d_A_product_75 : decode c_A_product 75 = .ok (.ldc2_w 51, 3) := by decide +kernel
theorem d_A_product_78 : decode c_A_product 78 = .ok (.lor, 1) := by decide +kernel
theorem d_A_product_79 : decode c_A_product 79 = .ok (.lreturn, 1) := by decide +kernel
theorem d_A_product_80 : decode c_A_product 80 = .ok (.iload 6, 2) := by decide +kernel
theorem d_A_product_82 : decode c_A_product 82 = .ok (.ifCond .eq 8, 3) := by decide +kernel
theorem d_A_product_85 : decode c_A_product 85 = .ok (.lload 4, 2) := by decide +kernel
theorem d_A_product_87 : decode c_A_product 87 = .ok (.goto 10, 3) := by decide +kernel
theorem d_A_product_90 : decode c_A_product 90 = .ok (.lload 4, 2) := by decide +kernel
theorem d_A_product_92 : decode c_A_product 92 = .ok (.lload_n 0, 1) := by decide +kernel
theorem d_A_product_93 : decode c_A_product 93 = .ok (.lload_n 2, 1) := by decide +kernel
theorem d_A_product_94 : decode c_A_product 94 = .ok (.invokestatic 53, 3) := by decide +kernel
theorem d_A_product_97 : decode c_A_product 97 = .ok (.lreturn, 1) := by decide +kernel
theorem zn_A_48 : zNS R_A 48 y_B_isZero c_B_isZero 2 (some .boolean) 1 := ⟨zco_B_isZero, zin_B, zml_A_48, zst_B_isZero, by decide +kernel⟩
theorem zn_A_53 : zNS R_A 53 y_A_productOfFinite c_A_productOfFinite 23 (some .long) 3 := ⟨zco_A_productOfFinite, zin_A, zml_A_53, zst_A_productOfFinite, by decide +kernel⟩
set_option maxHeartbeats 4000000 in
set_option maxRecDepth 100000 in
theorem k_A_product (κ : zC) (X : zXT) (hX : zX κ X) (l : Launch) (sz : Nat) (x0 : Int64) (x2 : Int64) (out : Int64) (hf : f_A_product x0 x2 = some out) : zMet κ X l y_A_product c_A_product 7 (some .long) 4 114 [.long x0, .long x2] sz [] (zQl κ (fun (r : Int64) (_ : Unit) => r = out) (fun u => [])) := by
  refine zMet.ofL (by decide +kernel) (Nat.le_of_ble_eq_true rfl) ?_
  intro p e s m args below meth c ls A Q hF hK hP hD hA hXs hS hl hret
  obtain ⟨hx, hb, hml, hown, hts⟩ := id hF
  obtain ⟨H, hH⟩ : ∃ H, H = s.heap := ⟨_, rfl⟩
  obtain ⟨locs, hlo⟩ : ∃ z : List Loc, z = [] := ⟨_, rfl⟩
  replace hP : zP κ [] H := by rw [hH]; exact hP
  replace hS : va_S A s.heap H locs := by rw [hH, hlo]; exact hS
  suffices hgo : W p l e (zR 4 114) s m args below meth c H locs 0 0 Q (F0 m 0 ls []) by rw [hH, hlo] at hgo; exact hgo
  clear hH hlo
  replace hl : lv_has ls 7 [(0, .long x0), (2, .long x2)] := hl
  have b_62 : ∀ (x4 : Int64) (x6 : Int32) (H : Heap) (locs : List Loc) (ls : Array Slot), f_A_product_62 x4 x6 = some out → zP κ [] H → va_D A [] → va_S A s.heap H locs → lv_has ls 7 [(4, .long x4), (6, .int x6)] → W p l e (zR 4 114) s m args below meth c H locs 0 0 Q (F0 m 62 ls []) := by
    intro x4 x6 H locs ls hf hP hD hS hl
    unfold f_A_product_62 at hf
    refine lv_iload hx hb d_A_product_62 (lv_at hl 1 rfl) ?_
    refine lv_if_eq (tgt := 73) hx hb d_A_product_64 (by decide) (fun c_64 => ?_) (fun c_64 => ?_)
    · have hf := (zbr hf).1 c_64
      refine lv_lload hx hb d_A_product_73 (lv_at hl 0 rfl) ?_
      refine lv_ldc2 (v := 9218868437227405312) hx hb hown (hts _ zkl_A_51) d_A_product_75 ?_
      refine lv_lor hx hb d_A_product_78 ?_
      exact hret ((x4 ||| 9218868437227405312)) () H locs ls _ d_A_product_79 hP hD hS (Option.some.inj hf)
    · have hf := (zbr hf).2 c_64
      refine lv_ldc2 (v := 9221120237041090560) hx hb hown (hts _ zkl_A_15) d_A_product_67 ?_
      refine lv_goto (tgt := 79) hx hb d_A_product_70 (by decide) ?_
      exact hret ((9221120237041090560 : Int64)) () H locs ls _ d_A_product_79 hP hD hS (Option.some.inj hf)
  have b_46 : ∀ (x0 : Int64) (x2 : Int64) (x4 : Int64) (s0 : Int32) (H : Heap) (locs : List Loc) (ls : Array Slot), f_A_product_46 x0 x2 x4 s0 = some out → zP κ [] H → va_D A [] → va_S A s.heap H locs → lv_has ls 7 [(0, .long x0), (2, .long x2), (4, .long x4)] → W p l e (zR 4 114) s m args below meth c H locs 0 0 Q (F0 m 46 ls [.int s0]) := by
    intro x0 x2 x4 s0 H locs ls hf hP hD hS hl
    unfold f_A_product_46 at hf
    refine lv_istore (lv' := [(6, .int s0), (0, .long x0), (2, .long x2), (4, .long x4)]) hx hb d_A_product_46 hl (by decide) rfl (fun ls hl => ?_)
    refine lv_lload_n hx hb d_A_product_48 rfl (lv_at hl 1 rfl) ?_
    obtain ⟨o_49, ho_49, hf⟩ := zbd hf
    refine zSi (isC := []) (isR := []) (isN := []) (wc := []) (wr := []) (wn := fun u => []) (rest := []) (As := [.long x0]) hF zn_A_17 (k_B_isInfinite κ X hX l H.size x0 o_49 ho_49) hX hXs hK hA hP hD hS ⟨by decide, by decide⟩ ⟨rfl, rfl, rfl, rfl, rfl, by decide⟩ ⟨rfl, fun _ => rfl, fun _ => rfl⟩ rfl hl.1 rfl (Nat.le_of_ble_eq_true rfl) ⟨Nat.zero_le _, Nat.zero_le _⟩ d_A_product_49 (fun r_49 u H locs hw hP hD hS => ?_)
    subst hw
    refine lv_if_ne (tgt := 62) hx hb d_A_product_52 (by decide) (fun c_52 => ?_) (fun c_52 => ?_)
    · have hf := (zbr hf).2 c_52
      exact b_62 x4 s0 H locs ls hf hP hD hS (lv_sub hl [3, 0] rfl)
    · have hf := (zbr hf).1 c_52
      refine lv_lload_n hx hb d_A_product_55 rfl (lv_at hl 2 rfl) ?_
      obtain ⟨o_56, ho_56, hf⟩ := zbd hf
      refine zSi (isC := []) (isR := []) (isN := []) (wc := []) (wr := []) (wn := fun u => []) (rest := []) (As := [.long x2]) hF zn_A_17 (k_B_isInfinite κ X hX l H.size x2 o_56 ho_56) hX hXs hK hA hP hD hS ⟨by decide, by decide⟩ ⟨rfl, rfl, rfl, rfl, rfl, by decide⟩ ⟨rfl, fun _ => rfl, fun _ => rfl⟩ rfl hl.1 rfl (Nat.le_of_ble_eq_true rfl) ⟨Nat.zero_le _, Nat.zero_le _⟩ d_A_product_56 (fun r_56 u H locs hw hP hD hS => ?_)
      subst hw
      refine lv_if_eq (tgt := 80) hx hb d_A_product_59 (by decide) (fun c_59 => ?_) (fun c_59 => ?_)
      · have hf := (zbr hf).1 c_59
        refine lv_iload hx hb d_A_product_80 (lv_at hl 0 rfl) ?_
        refine lv_if_eq (tgt := 90) hx hb d_A_product_82 (by decide) (fun c_82 => ?_) (fun c_82 => ?_)
        · have hf := (zbr hf).1 c_82
          refine lv_lload hx hb d_A_product_90 (lv_at hl 3 rfl) ?_
          refine lv_lload_n hx hb d_A_product_92 rfl (lv_at hl 1 rfl) ?_
          refine lv_lload_n hx hb d_A_product_93 rfl (lv_at hl 2 rfl) ?_
          obtain ⟨o_94, ho_94, hf⟩ := zbd hf
          refine zSl (isC := []) (isR := []) (isN := []) (wc := []) (wr := []) (wn := fun u => []) (rest := []) (As := [.long x4, .long x0, .long x2]) hF zn_A_53 (k_A_productOfFinite κ X hX l H.size x4 x0 x2 o_94 ho_94) hX hXs hK hA hP hD hS ⟨by decide, by decide⟩ ⟨rfl, rfl, rfl, rfl, rfl, by decide⟩ ⟨rfl, fun _ => rfl, fun _ => rfl⟩ rfl hl.1 rfl (Nat.le_of_ble_eq_true rfl) ⟨Nat.zero_le _, Nat.zero_le _⟩ d_A_product_94 (fun r_94 u H locs hw hP hD hS => ?_)
          subst hw
          exact hret (r_94) () H locs ls _ d_A_product_97 hP hD hS (Option.some.inj hf)
        · have hf := (zbr hf).2 c_82
          refine lv_lload hx hb d_A_product_85 (lv_at hl 3 rfl) ?_
          refine lv_goto (tgt := 97) hx hb d_A_product_87 (by decide) ?_
          exact hret (x4) () H locs ls _ d_A_product_97 hP hD hS (Option.some.inj hf)
      · have hf := (zbr hf).2 c_59
        exact b_62 x4 s0 H locs ls hf hP hD hS (lv_sub hl [3, 0] rfl)
  have b_41 : ∀ (x0 : Int64) (x2 : Int64) (x4 : Int64) (H : Heap) (locs : List Loc) (ls : Array Slot), f_A_product_41 x0 x2 x4 = some out → zP κ [] H → va_D A [] → va_S A s.heap H locs → lv_has ls 7 [(0, .long x0), (2, .long x2), (4, .long x4)] → W p l e (zR 4 114) s m args below meth c H locs 0 0 Q (F0 m 41 ls []) := by
    intro x0 x2 x4 H locs ls hf hP hD hS hl
    unfold f_A_product_41 at hf
    refine lv_iconst (v := 1) hx hb d_A_product_41 (by decide) ?_
    refine lv_goto (tgt := 46) hx hb d_A_product_42 (by decide) ?_
    exact b_46 x0 x2 x4 1 H locs ls hf hP hD hS hl
  unfold f_A_product at hf
  refine lv_lload_n hx hb d_A_product_0 rfl (lv_at hl 0 rfl) ?_
  obtain ⟨o_1, ho_1, hf⟩ := zbd hf
  refine zSi (isC := []) (isR := []) (isN := []) (wc := []) (wr := []) (wn := fun u => []) (rest := []) (As := [.long x0]) hF zn_A_9 (k_B_isNan κ X hX l H.size x0 o_1 ho_1) hX hXs hK hA hP hD hS ⟨by decide, by decide⟩ ⟨rfl, rfl, rfl, rfl, rfl, by decide⟩ ⟨rfl, fun _ => rfl, fun _ => rfl⟩ rfl hl.1 rfl (Nat.le_of_ble_eq_true rfl) ⟨Nat.zero_le _, Nat.zero_le _⟩ d_A_product_1 (fun r_1 u H locs hw hP hD hS => ?_)
  subst hw
  refine lv_if_ne (tgt := 14) hx hb d_A_product_4 (by decide) (fun c_4 => ?_) (fun c_4 => ?_)
  · have hf := (zbr hf).2 c_4
    refine lv_ldc2 (v := 9221120237041090560) hx hb hown (hts _ zkl_A_15) d_A_product_14 ?_
    exact hret ((9221120237041090560 : Int64)) () H locs ls _ d_A_product_17 hP hD hS (Option.some.inj hf)
  · have hf := (zbr hf).1 c_4
    refine lv_lload_n hx hb d_A_product_7 rfl (lv_at hl 1 rfl) ?_
    obtain ⟨o_8, ho_8, hf⟩ := zbd hf
    refine zSi (isC := []) (isR := []) (isN := []) (wc := []) (wr := []) (wn := fun u => []) (rest := []) (As := [.long x2]) hF zn_A_9 (k_B_isNan κ X hX l H.size x2 o_8 ho_8) hX hXs hK hA hP hD hS ⟨by decide, by decide⟩ ⟨rfl, rfl, rfl, rfl, rfl, by decide⟩ ⟨rfl, fun _ => rfl, fun _ => rfl⟩ rfl hl.1 rfl (Nat.le_of_ble_eq_true rfl) ⟨Nat.zero_le _, Nat.zero_le _⟩ d_A_product_8 (fun r_8 u H locs hw hP hD hS => ?_)
    subst hw
    refine lv_if_eq (tgt := 18) hx hb d_A_product_11 (by decide) (fun c_11 => ?_) (fun c_11 => ?_)
    · have hf := (zbr hf).1 c_11
      refine lv_lload_n hx hb d_A_product_18 rfl (lv_at hl 0 rfl) ?_
      refine lv_lload_n hx hb d_A_product_19 rfl (lv_at hl 1 rfl) ?_
      refine lv_lxor hx hb d_A_product_20 ?_
      refine lv_ldc2 (v := (-9223372036854775808)) hx hb hown (hts _ zkl_A_28) d_A_product_21 ?_
      refine lv_land hx hb d_A_product_24 ?_
      refine lv_lstore (lv' := [(4, .long ((x0 ^^^ x2) &&& (-9223372036854775808))), (0, .long x0), (2, .long x2)]) hx hb d_A_product_25 hl (by decide) rfl (fun ls hl => ?_)
      refine lv_lload_n hx hb d_A_product_27 rfl (lv_at hl 1 rfl) ?_
      obtain ⟨o_28, ho_28, hf⟩ := zbd hf
      refine zSi (isC := []) (isR := []) (isN := []) (wc := []) (wr := []) (wn := fun u => []) (rest := []) (As := [.long x0]) hF zn_A_48 (k_B_isZero κ X hX l H.size x0 o_28 ho_28) hX hXs hK hA hP hD hS ⟨by decide, by decide⟩ ⟨rfl, rfl, rfl, rfl, rfl, by decide⟩ ⟨rfl, fun _ => rfl, fun _ => rfl⟩ rfl hl.1 rfl (Nat.le_of_ble_eq_true rfl) ⟨Nat.zero_le _, Nat.zero_le _⟩ d_A_product_28 (fun r_28 u H locs hw hP hD hS => ?_)
      subst hw
      refine lv_if_ne (tgt := 41) hx hb d_A_product_31 (by decide) (fun c_31 => ?_) (fun c_31 => ?_)
      · have hf := (zbr hf).2 c_31
        exact b_41 x0 x2 ((x0 ^^^ x2) &&& (-9223372036854775808)) H locs ls hf hP hD hS (lv_sub hl [1, 2, 0] rfl)
      · have hf := (zbr hf).1 c_31
        refine lv_lload_n hx hb d_A_product_34 rfl (lv_at hl 2 rfl) ?_
        obtain ⟨o_35, ho_35, hf⟩ := zbd hf
        refine zSi (isC := []) (isR := []) (isN := []) (wc := []) (wr := []) (wn := fun u => []) (rest := []) (As := [.long x2]) hF zn_A_48 (k_B_isZero κ X hX l H.size x2 o_35 ho_35) hX hXs hK hA hP hD hS ⟨by decide, by decide⟩ ⟨rfl, rfl, rfl, rfl, rfl, by decide⟩ ⟨rfl, fun _ => rfl, fun _ => rfl⟩ rfl hl.1 rfl (Nat.le_of_ble_eq_true rfl) ⟨Nat.zero_le _, Nat.zero_le _⟩ d_A_product_35 (fun r_35 u H locs hw hP hD hS => ?_)
        subst hw
        refine lv_if_eq (tgt := 45) hx hb d_A_product_38 (by decide) (fun c_38 => ?_) (fun c_38 => ?_)
        · have hf := (zbr hf).1 c_38
          refine lv_iconst (v := 0) hx hb d_A_product_45 (by decide) ?_
          exact b_46 x0 x2 ((x0 ^^^ x2) &&& (-9223372036854775808)) 0 H locs ls hf hP hD hS (lv_sub hl [1, 2, 0] rfl)
        · have hf := (zbr hf).2 c_38
          exact b_41 x0 x2 ((x0 ^^^ x2) &&& (-9223372036854775808)) H locs ls hf hP hD hS (lv_sub hl [1, 2, 0] rfl)
    · have hf := (zbr hf).2 c_11
      refine lv_ldc2 (v := 9221120237041090560) hx hb hown (hts _ zkl_A_15) d_A_product_14 ?_
      exact hret ((9221120237041090560 : Int64)) () H locs ls _ d_A_product_17 hP hD hS (Option.some.inj hf)
theorem d_A_quotientOfFinite_0 : decode c_A_quotientOfFinite 0 = .ok (.lload_n 2, 1) := by decide +kernel
theorem d_A_quotientOfFinite_1 : decode c_A_quotientOfFinite 1 = .ok (.invokestatic 37, 3) := by decide +kernel
theorem d_A_quotientOfFinite_4 : decode c_A_quotientOfFinite 4 = .ok (.invokestatic 57, 3) := by decide +kernel
theorem d_A_quotientOfFinite_7 : decode c_A_quotientOfFinite 7 = .ok (.istore 6, 2) := by decide +kernel
theorem d_A_quotientOfFinite_9 : decode c_A_quotientOfFinite 9 = .ok (.lload 4, 2) := by decide +kernel
theorem d_A_quotientOfFinite_11 : decode c_A_quotientOfFinite 11 = .ok (.invokestatic 37, 3) := by decide +kernel
theorem d_A_quotientOfFinite_14 : decode c_A_quotientOfFinite 14 = .ok (.invokestatic 57, 3) := by decide +kernel
theorem d_A_quotientOfFinite_17 : decode c_A_quotientOfFinite 17 = .ok (.istore 7, 2) := by decide +kernel
theorem d_A_quotientOfFinite_19 : decode c_A_quotientOfFinite 19 = .ok (.lload 4, 2) := by decide +kernel
theorem d_A_quotientOfFinite_21 : decode c_A_quotientOfFinite 21 = .ok (.invokestatic 37, 3) := by decide +kernel
theorem d_A_quotientOfFinite_24 : decode c_A_quotientOfFinite 24 = .ok (.iload 7, 2) := by decide +kernel
theorem d_A_quotientOfFinite_26 : decode c_A_quotientOfFinite 26 = .ok (.lshl, 1) := by decide +kernel
theorem d_A_quotientOfFinite_27 : decode c_A_quotientOfFinite 27 = .ok (.lstore 8, 2) := by decide +kernel
theorem d_A_quotientOfFinite_29 : decode c_A_quotientOfFinite 29 = .ok (.lload_n 2, 1) := by decide +kernel
theorem d_A_quotientOfFinite_30 : decode c_A_quotientOfFinite 30 = .ok (.invokestatic 37, 3) := by decide +kernel
theorem d_A_quotientOfFinite_33 : decode c_A_quotientOfFinite 33 = .ok (.iload 6, 2) := by decide +kernel
theorem d_A_quotientOfFinite_35 : decode c_A_quotientOfFinite 35 = .ok (.lshl, 1) := by decide +kernel
theorem d_A_quotientOfFinite_36 : decode c_A_quotientOfFinite 36 = .ok (.lstore 10, 2) := by decide +kernel
theorem d_A_quotientOfFinite_38 : decode c_A_quotientOfFinite 38 = .ok (.lconst 0, 1) := by decide +kernel
theorem d_A_quotientOfFinite_39 : decode c_A_quotientOfFinite 39 = .ok (.lstore 12, 2) := by decide +kernel
theorem d_A_quotientOfFinite_41 : decode c_A_quotientOfFinite 41 = .ok (.iconst 0, 1) := by decide +kernel
theorem d_A_quotientOfFinite_42 : decode c_A_quotientOfFinite 42 = .ok (.istore 14, 2) := by decide +kernel
theorem d_A_quotientOfFinite_44 : decode c_A_quotientOfFinite 44 = .ok (.iload 14, 2) := by decide +kernel
theorem d_A_quotientOfFinite_46 : decode c_A_quotientOfFinite 46 = .ok (.bipush 60, 2) := by decide +kernel
theorem d_A_quotientOfFinite_48 : decode c_A_quotientOfFinite 48 = .ok (.if_icmp .gt 42, 3) := by decide +kernel
theorem d_A_quotientOfFinite_51 : decode c_A_quotientOfFinite 51 = .ok (.lload 12, 2) := by decide +kernel
theorem d_A_quotientOfFinite_53 : decode c_A_quotientOfFinite 53 = .ok (.iconst 1, 1) := by decide +kernel
theorem d_A_quotientOfFinite_54 : decode c_A_quotientOfFinite 54 = .ok (.lshl, 1) := by decide +kernel
theorem d_A_quotientOfFinite_55 : decode c_A_quotientOfFinite 55 = .ok (.lstore 12, 2) := by decide +kernel
theorem d_A_quotientOfFinite_57 : decode c_A_quotientOfFinite 57 = .ok (.lload 10, 2) := by decide +kernel
theorem d_A_quotientOfFinite_59 : decode c_A_quotientOfFinite 59 = .ok (.lload 8, 2) := by decide +kernel
theorem d_A_quotientOfFinite_61 : decode c_A_quotientOfFinite 61 = .ok (.lcmp, 1) := by decide +kernel
theorem d_A_quotientOfFinite_62 : decode c_A_quotientOfFinite 62 = .ok (.ifCond .lt 16, 3) := by decide +kernel
theorem d_A_quotientOfFinite_65 : decode c_A_quotientOfFinite 65 = .ok (.lload 10, 2) := by decide +kernel
theorem d_A_quotientOfFinite_67 : decode c_A_quotientOfFinite 67 = .ok (.lload 8, 2) := by decide +kernel
theorem d_A_quotientOfFinite_69 : decode c_A_quotientOfFinite 69 = .ok (.lsub, 1) := by decide +kernel
theorem d_A_quotientOfFinite_70 : decode c_A_quotientOfFinite 70 = .ok (.lstore 10, 2) := by decide +kernel
theorem d_A_quotientOfFinite_72 : decode c_A_quotientOfFinite 72 = .ok (.lload 12, 2) := by decide +kernel
theorem d_A_quotientOfFinite_74 : decode c_A_quotientOfFinite 74 = .ok (.lconst 1, 1) := by decide +kernel
theorem d_A_quotientOfFinite_75 : decode c_A_quotientOfFinite 75 = .ok (.lor, 1) := by decide +kernel
theorem d_A_quotientOfFinite_76 : decode c_A_quotientOfFinite 76 = .ok (.lstore 12, 2) := by decide +kernel
theorem d_A_quotientOfFinite_78 : decode c_A_quotientOfFinite 78 = .ok (.lload 10, 2) := by decide +kernel
theorem d_A_quotientOfFinite_80 : decode c_A_quotientOfFinite 80 = .ok (.iconst 1, 1) := by decide +kernel
theorem d_A_quotientOfFinite_81 : decode c_A_quotientOfFinite 81 = .ok (.lshl, 1) := by decide +kernel
theorem d_A_quotientOfFinite_82 : decode c_A_quotientOfFinite 82 = .ok (.lstore 10, 2) := by decide +kernel
theorem d_A_quotientOfFinite_84 : decode c_A_quotientOfFinite 84 = .ok (.iinc 14 1, 3) := by decide +kernel
theorem d_A_quotientOfFinite_87 : decode c_A_quotientOfFinite 87 = .ok (.goto (-43), 3) := by decide +kernel
theorem d_A_quotientOfFinite_90 : decode c_A_quotientOfFinite 90 = .ok (.lload_n 2, 1) := by decide +kernel
theorem d_A_quotientOfFinite_91 : decode c_A_quotientOfFinite 91 = .ok (.invokestatic 33, 3) := by decide +kernel
theorem d_A_quotientOfFinite_94 : decode c_A_quotientOfFinite 94 = .ok (.iload 6, 2) := by decide +kernel
theorem d_A_quotientOfFinite_96 : decode c_A_quotientOfFinite 96 = .ok (.isub, 1) := by decide +kernel
theorem d_A_quotientOfFinite_97 : decode c_A_quotientOfFinite 97 = .ok (.lload 4, 2) := by decide +kernel
theorem d_A_quotientOfFinite_99 : decode c_A_quotientOfFinite 99 = .ok (.invokestatic 33, 3) := by decide +kernel
theorem d_A_quotientOfFinite_102 : decode c_A_quotientOfFinite 102 = .ok (.iload 7, 2) := by decide +kernel
theorem d_A_quotientOfFinite_104 : decode c_A_quotientOfFinite 104 = .ok (.isub, 1) := by decide +kernel
theorem d_A_quotientOfFinite_105 : decode c_A_quotientOfFinite 105 = .ok (.isub, 1) := by decide +kernel
theorem d_A_quotientOfFinite_106 : decode c_A_quotientOfFinite 106 = .ok (.bipush 60, 2) := by decide +kernel
theorem d_A_quotientOfFinite_108 : decode c_A_quotientOfFinite 108 = .ok (.isub, 1) := by decide +kernel
theorem d_A_quotientOfFinite_109 : decode c_A_quotientOfFinite 109 = .ok (.istore 14, 2) := by decide +kernel
theorem d_A_quotientOfFinite_111 : decode c_A_quotientOfFinite 111 = .ok (.lload_n 0, 1) := by decide +kernel
theorem d_A_quotientOfFinite_112 : decode c_A_quotientOfFinite 112 = .ok (.lload 10, 2) := by decide +kernel
theorem d_A_quotientOfFinite_114 : decode c_A_quotientOfFinite 114 = .ok (.lconst 0, 1) := by decide +kernel
theorem d_A_quotientOfFinite_115 : decode c_A_quotientOfFinite 115 = .ok (.lcmp, 1) := by decide +kernel
theorem d_A_quotientOfFinite_116 : decode c_A_quotientOfFinite 116 = .ok (.ifCond .ne 8, 3) := by decide +kernel
theorem d_A_quotientOfFinite_119 : decode c_A_quotientOfFinite 119 = .ok (.lload 12, 2) := by decide +kernel
theorem d_A_quotientOfFinite_121 : decode c_A_quotientOfFinite 121 = .ok (.goto 7, 3) := by decide +kernel
theorem d_A_quotientOfFinite_124 : decode c_A_quotientOfFinite 124 = .ok (.lload 12, 2) := by decide +kernel
theorem d_A_quotientOfFinite_126 : decode c_A_quotientOfFinite 126 = .ok (.lconst 1, 1) := by decide +kernel
theorem d_A_quotientOfFinite_127 : decode c_A_quotientOfFinite 127 = .ok (.lor, 1) := by decide +kernel
theorem d_A_quotientOfFinite_128 : decode c_A_quotientOfFinite 128 = .ok (.iload 14, 2) := by decide +kernel
theorem d_A_quotientOfFinite_130 : decode c_A_quotientOfFinite 130 = .ok (.invokestatic 44, 3) := by decide +kernel
theorem d_A_quotientOfFinite_133 : decode c_A_quotientOfFinite 133 = .ok (.lreturn, 1) := by decide +kernel
set_option maxHeartbeats 4000000 in
set_option maxRecDepth 100000 in
theorem k_A_quotientOfFinite (κ : zC) (X : zXT) (hX : zX κ X) (l : Launch) (sz : Nat) (x0 : Int64) (x2 : Int64) (x4 : Int64) (out : Int64) (hf : f_A_quotientOfFinite x0 x2 x4 = some out) : zMet κ X l y_A_quotientOfFinite c_A_quotientOfFinite 15 (some .long) 3 72 [.long x0, .long x2, .long x4] sz [] (zQl κ (fun (r : Int64) (_ : Unit) => r = out) (fun u => [])) := by
  refine zMet.ofL (by decide +kernel) (Nat.le_of_ble_eq_true rfl) ?_
  intro p e s m args below meth c ls A Q hF hK hP hD hA hXs hS hl hret
  obtain ⟨hx, hb, hml, hown, hts⟩ := id hF
  obtain ⟨H, hH⟩ : ∃ H, H = s.heap := ⟨_, rfl⟩
  obtain ⟨locs, hlo⟩ : ∃ z : List Loc, z = [] := ⟨_, rfl⟩
  replace hP : zP κ [] H := by rw [hH]; exact hP
  replace hS : va_S A s.heap H locs := by rw [hH, hlo]; exact hS
  suffices hgo : W p l e (zR 3 72) s m args below meth c H locs 0 0 Q (F0 m 0 ls []) by rw [hH, hlo] at hgo; exact hgo
  clear hH hlo
  replace hl : lv_has ls 15 [(0, .long x0), (2, .long x2), (4, .long x4)] := hl
  have b_128 : ∀ (x14 : Int32) (s0 : Int64) (s1 : Int64) (H : Heap) (locs : List Loc) (ls : Array Slot), f_A_quotientOfFinite_128 x14 s0 s1 = some out → zP κ [] H → va_D A [] → va_S A s.heap H locs → lv_has ls 15 [(14, .int x14)] → W p l e (zR 3 72) s m args below meth c H locs 0 0 Q (F0 m 128 ls [.long s1, .long s0]) := by
    intro x14 s0 s1 H locs ls hf hP hD hS hl
    unfold f_A_quotientOfFinite_128 at hf
    refine lv_iload hx hb d_A_quotientOfFinite_128 (lv_at hl 0 rfl) ?_
    obtain ⟨o_130, ho_130, hf⟩ := zbd hf
    refine zSl (isC := []) (isR := []) (isN := []) (wc := []) (wr := []) (wn := fun u => []) (rest := []) (As := [.long s0, .long s1, .int x14]) hF zn_A_44 (k_B_round κ X hX l H.size s0 s1 x14 o_130 ho_130) hX hXs hK hA hP hD hS ⟨by decide, by decide⟩ ⟨rfl, rfl, rfl, rfl, rfl, by decide⟩ ⟨rfl, fun _ => rfl, fun _ => rfl⟩ rfl hl.1 rfl (Nat.le_of_ble_eq_true rfl) ⟨Nat.zero_le _, Nat.zero_le _⟩ d_A_quotientOfFinite_130 (fun r_130 u H locs hw hP hD hS => ?_)
    subst hw
    exact hret (r_130) () H locs ls _ d_A_quotientOfFinite_133 hP hD hS (Option.some.inj hf)
  have b_90 : ∀ (x0 : Int64) (x2 : Int64) (x4 : Int64) (x6 : Int32) (x7 : Int32) (x10 : Int64) (x12 : Int64) (H : Heap) (locs : List Loc) (ls : Array Slot), f_A_quotientOfFinite_90 x0 x2 x4 x6 x7 x10 x12 = some out → zP κ [] H → va_D A [] → va_S A s.heap H locs → lv_has ls 15 [(0, .long x0), (2, .long x2), (4, .long x4), (6, .int x6), (7, .int x7), (10, .long x10), (12, .long x12)] → W p l e (zR 3 72) s m args below meth c H locs 0 0 Q (F0 m 90 ls []) := by
    intro x0 x2 x4 x6 x7 x10 x12 H locs ls hf hP hD hS hl
    unfold f_A_quotientOfFinite_90 at hf
    refine lv_lload_n hx hb d_A_quotientOfFinite_90 rfl (lv_at hl 1 rfl) ?_
    obtain ⟨o_91, ho_91, hf⟩ := zbd hf
    refine zSi (isC := []) (isR := []) (isN := []) (wc := []) (wr := []) (wn := fun u => []) (rest := []) (As := [.long x2]) hF zn_A_33 (k_B_exponent κ X hX l H.size x2 o_91 ho_91) hX hXs hK hA hP hD hS ⟨by decide, by decide⟩ ⟨rfl, rfl, rfl, rfl, rfl, by decide⟩ ⟨rfl, fun _ => rfl, fun _ => rfl⟩ rfl hl.1 rfl (Nat.le_of_ble_eq_true rfl) ⟨Nat.zero_le _, Nat.zero_le _⟩ d_A_quotientOfFinite_91 (fun r_91 u H locs hw hP hD hS => ?_)
    subst hw
    refine lv_iload hx hb d_A_quotientOfFinite_94 (lv_at hl 3 rfl) ?_
    refine lv_isub hx hb d_A_quotientOfFinite_96 ?_
    refine lv_lload hx hb d_A_quotientOfFinite_97 (lv_at hl 2 rfl) ?_
    obtain ⟨o_99, ho_99, hf⟩ := zbd hf
    refine zSi (isC := []) (isR := []) (isN := []) (wc := []) (wr := []) (wn := fun u => []) (rest := [.int (r_91 - x6)]) (As := [.long x4]) hF zn_A_33 (k_B_exponent κ X hX l H.size x4 o_99 ho_99) hX hXs hK hA hP hD hS ⟨by decide, by decide⟩ ⟨rfl, rfl, rfl, rfl, rfl, by decide⟩ ⟨rfl, fun _ => rfl, fun _ => rfl⟩ rfl hl.1 rfl (Nat.le_of_ble_eq_true rfl) ⟨Nat.zero_le _, Nat.zero_le _⟩ d_A_quotientOfFinite_99 (fun r_99 u H locs hw hP hD hS => ?_)
    subst hw
    refine lv_iload hx hb d_A_quotientOfFinite_102 (lv_at hl 4 rfl) ?_
    refine lv_isub hx hb d_A_quotientOfFinite_104 ?_
    refine lv_isub hx hb d_A_quotientOfFinite_105 ?_
    refine lv_bipush (v := 60) hx hb d_A_quotientOfFinite_106 (by decide) ?_
    refine lv_isub hx hb d_A_quotientOfFinite_108 ?_
    refine lv_istore (lv' := [(14, .int (((r_91 - x6) - (r_99 - x7)) - 60)), (0, .long x0), (2, .long x2), (4, .long x4), (6, .int x6), (7, .int x7), (10, .long x10), (12, .long x12)]) hx hb d_A_quotientOfFinite_109 hl (by decide) rfl (fun ls hl => ?_)
    refine lv_lload_n hx hb d_A_quotientOfFinite_111 rfl (lv_at hl 1 rfl) ?_
    refine lv_lload hx hb d_A_quotientOfFinite_112 (lv_at hl 6 rfl) ?_
    refine lv_lconst (v := 0) hx hb d_A_quotientOfFinite_114 (by decide) ?_
    refine W.lcmp hx hb d_A_quotientOfFinite_115 ?_
    refine lv_if_ne (tgt := 124) hx hb d_A_quotientOfFinite_116 (by decide) (fun c_116 => ?_) (fun c_116 => ?_)
    · have hf := (zbr hf).2 (zc_neq c_116)
      refine lv_lload hx hb d_A_quotientOfFinite_124 (lv_at hl 7 rfl) ?_
      refine lv_lconst (v := 1) hx hb d_A_quotientOfFinite_126 (by decide) ?_
      refine lv_lor hx hb d_A_quotientOfFinite_127 ?_
      exact b_128 (((r_91 - x6) - (r_99 - x7)) - 60) x0 (x12 ||| 1) H locs ls hf hP hD hS (lv_sub hl [0] rfl)
    · have hf := (zbr hf).1 (zc_eq.mp c_116)
      refine lv_lload hx hb d_A_quotientOfFinite_119 (lv_at hl 7 rfl) ?_
      refine lv_goto (tgt := 128) hx hb d_A_quotientOfFinite_121 (by decide) ?_
      exact b_128 (((r_91 - x6) - (r_99 - x7)) - 60) x0 x12 H locs ls hf hP hD hS (lv_sub hl [0] rfl)
  have b_44 : ∀ (x0 : Int64) (x2 : Int64) (x4 : Int64) (x6 : Int32) (x7 : Int32) (x8 : Int64) (x10 : Int64) (x12 : Int64) (x14 : Int32) (H : Heap) (locs : List Loc) (ls : Array Slot), f_A_quotientOfFinite_44 x0 x2 x4 x6 x7 x8 x10 x12 x14 = some out → zP κ [] H → va_D A [] → va_S A s.heap H locs → lv_has ls 15 [(0, .long x0), (2, .long x2), (4, .long x4), (6, .int x6), (7, .int x7), (8, .long x8), (10, .long x10), (12, .long x12), (14, .int x14)] → W p l e (zR 3 72) s m args below meth c H locs 0 0 Q (F0 m 44 ls []) := by
    intro x0 x2 x4 x6 x7 x8 x10 x12 x14 H locs ls hf hP hD hS hl
    refine zrun_ind (P := fun z : (Int64) × (Int64) × (Int32) => ∀ (H : Heap) (locs : List Loc) (ls : Array Slot), zP κ [] H → va_D A [] → va_S A s.heap H locs → lv_has ls 15 [(0, .long x0), (2, .long x2), (4, .long x4), (6, .int x6), (7, .int x7), (8, .long x8), (10, .long z.1), (12, .long z.2.1), (14, .int z.2.2)] → W p l e (zR 3 72) s m args below meth c H locs 0 0 Q (F0 m 44 ls [])) ?_ hf H locs ls hP hD hS hl
    clear hf hP hD hS hl H locs ls x10 x12 x14
    intro z ih hne hexit_44 H locs ls hP hD hS hl
    obtain ⟨q_44, hf⟩ := zne hne
    have hback_44 := fun y (e : q_44 = .inl y) => ih y (e ▸ hf)
    replace hexit_44 := fun y (e : q_44 = .inr y) => hexit_44 y (e ▸ hf)
    clear ih hne
    obtain ⟨x10, x12, x14⟩ := z
    replace hf : f_A_quotientOfFinite_44_body x0 x2 x4 x6 x7 x8 x10 x12 x14 = some q_44 := hf
    replace hP : zP κ [] H := hP
    replace hD : va_D A [] := hD
    replace hl : lv_has ls 15 [(0, .long x0), (2, .long x2), (4, .long x4), (6, .int x6), (7, .int x7), (8, .long x8), (10, .long x10), (12, .long x12), (14, .int x14)] := hl
    have b_78 : ∀ (x10 : Int64) (x12 : Int64) (x14 : Int32) (H : Heap) (locs : List Loc) (ls : Array Slot), f_A_quotientOfFinite_78 x0 x2 x4 x6 x7 x8 x10 x12 x14 = some q_44 → zP κ [] H → va_D A [] → va_S A s.heap H locs → lv_has ls 15 [(0, .long x0), (2, .long x2), (4, .long x4), (6, .int x6), (7, .int x7), (8, .long x8), (10, .long x10), (12, .long x12), (14, .int x14)] → W p l e (zR 3 72) s m args below meth c H locs 0 0 Q (F0 m 78 ls []) := by
      intro x10 x12 x14 H locs ls hf hP hD hS hl
      unfold f_A_quotientOfFinite_78 at hf
      refine lv_lload hx hb d_A_quotientOfFinite_78 (lv_at hl 6 rfl) ?_
      refine lv_iconst (v := 1) hx hb d_A_quotientOfFinite_80 (by decide) ?_
      refine lv_lshl (v := (jlshl x10 1)) hx hb d_A_quotientOfFinite_81 rfl ?_
      refine lv_lstore (lv' := [(10, .long (jlshl x10 1)), (0, .long x0), (2, .long x2), (4, .long x4), (6, .int x6), (7, .int x7), (8, .long x8), (12, .long x12), (14, .int x14)]) hx hb d_A_quotientOfFinite_82 hl (by decide) rfl (fun ls hl => ?_)
      refine lv_iinc (v := (x14 + 1)) (lv' := [(14, .int (x14 + 1)), (10, .long (jlshl x10 1)), (0, .long x0), (2, .long x2), (4, .long x4), (6, .int x6), (7, .int x7), (8, .long x8), (12, .long x12)]) hx hb d_A_quotientOfFinite_84 hl (k := 8) rfl rfl (by decide) rfl (fun ls hl => ?_)
      refine lv_goto (tgt := 44) hx hb d_A_quotientOfFinite_87 (by decide) ?_
      exact hback_44 _ (Option.some.inj hf).symm H locs ls hP hD hS (lv_sub hl [2, 3, 4, 5, 6, 7, 1, 8, 0] rfl)
    unfold f_A_quotientOfFinite_44_body at hf
    refine lv_iload hx hb d_A_quotientOfFinite_44 (lv_at hl 8 rfl) ?_
    refine lv_bipush (v := 60) hx hb d_A_quotientOfFinite_46 (by decide) ?_
    refine lv_icmp_gt (tgt := 90) hx hb d_A_quotientOfFinite_48 (by decide) (fun c_48 => ?_) (fun c_48 => ?_)
    · have hf := (zbr hf).1 c_48
      have hf := zex hf hexit_44
      exact b_90 x0 x2 x4 x6 x7 x10 x12 H locs ls hf hP hD hS (lv_sub hl [0, 1, 2, 3, 4, 6, 7] rfl)
    · have hf := (zbr hf).2 c_48
      refine lv_lload hx hb d_A_quotientOfFinite_51 (lv_at hl 7 rfl) ?_
      refine lv_iconst (v := 1) hx hb d_A_quotientOfFinite_53 (by decide) ?_
      refine lv_lshl (v := (jlshl x12 1)) hx hb d_A_quotientOfFinite_54 rfl ?_
      refine lv_lstore (lv' := [(12, .long (jlshl x12 1)), (0, .long x0), (2, .long x2), (4, .long x4), (6, .int x6), (7, .int x7), (8, .long x8), (10, .long x10), (14, .int x14)]) hx hb d_A_quotientOfFinite_55 hl (by decide) rfl (fun ls hl => ?_)
      refine lv_lload hx hb d_A_quotientOfFinite_57 (lv_at hl 7 rfl) ?_
      refine lv_lload hx hb d_A_quotientOfFinite_59 (lv_at hl 6 rfl) ?_
      refine W.lcmp hx hb d_A_quotientOfFinite_61 ?_
      refine lv_if_lt (tgt := 78) hx hb d_A_quotientOfFinite_62 (by decide) (fun c_62 => ?_) (fun c_62 => ?_)
      · have hf := (zbr hf).1 (zc_lt.mp c_62)
        exact b_78 x10 (jlshl x12 1) x14 H locs ls hf hP hD hS (lv_sub hl [1, 2, 3, 4, 5, 6, 7, 0, 8] rfl)
      · have hf := (zbr hf).2 (zc_nlt c_62)
        refine lv_lload hx hb d_A_quotientOfFinite_65 (lv_at hl 7 rfl) ?_
        refine lv_lload hx hb d_A_quotientOfFinite_67 (lv_at hl 6 rfl) ?_
        refine lv_lsub hx hb d_A_quotientOfFinite_69 ?_
        refine lv_lstore (lv' := [(10, .long (x10 - x8)), (12, .long (jlshl x12 1)), (0, .long x0), (2, .long x2), (4, .long x4), (6, .int x6), (7, .int x7), (8, .long x8), (14, .int x14)]) hx hb d_A_quotientOfFinite_70 hl (by decide) rfl (fun ls hl => ?_)
        refine lv_lload hx hb d_A_quotientOfFinite_72 (lv_at hl 1 rfl) ?_
        refine lv_lconst (v := 1) hx hb d_A_quotientOfFinite_74 (by decide) ?_
        refine lv_lor hx hb d_A_quotientOfFinite_75 ?_
        refine lv_lstore (lv' := [(12, .long ((jlshl x12 1) ||| 1)), (10, .long (x10 - x8)), (0, .long x0), (2, .long x2), (4, .long x4), (6, .int x6), (7, .int x7), (8, .long x8), (14, .int x14)]) hx hb d_A_quotientOfFinite_76 hl (by decide) rfl (fun ls hl => ?_)
        exact b_78 (x10 - x8) ((jlshl x12 1) ||| 1) x14 H locs ls hf hP hD hS (lv_sub hl [2, 3, 4, 5, 6, 7, 1, 0, 8] rfl)
  unfold f_A_quotientOfFinite at hf
  refine lv_lload_n hx hb d_A_quotientOfFinite_0 rfl (lv_at hl 1 rfl) ?_
  obtain ⟨o_1, ho_1, hf⟩ := zbd hf
  refine zSl (isC := []) (isR := []) (isN := []) (wc := []) (wr := []) (wn := fun u => []) (rest := []) (As := [.long x2]) hF zn_A_37 (k_B_mantissa κ X hX l H.size x2 o_1 ho_1) hX hXs hK hA hP hD hS ⟨by decide, by decide⟩ ⟨rfl, rfl, rfl, rfl, rfl, by decide⟩ ⟨rfl, fun _ => rfl, fun _ => rfl⟩ rfl hl.1 rfl (Nat.le_of_ble_eq_true rfl) ⟨Nat.zero_le _, Nat.zero_le _⟩ d_A_quotientOfFinite_1 (fun r_1 u H locs hw hP hD hS => ?_)
  subst hw
  obtain ⟨o_4, ho_4, hf⟩ := zbd hf
  refine zSi (isC := []) (isR := []) (isN := []) (wc := []) (wr := []) (wn := fun u => []) (rest := []) (As := [.long r_1]) hF zn_A_57 (k_B_lift κ X hX l H.size r_1 o_4 ho_4) hX hXs hK hA hP hD hS ⟨by decide, by decide⟩ ⟨rfl, rfl, rfl, rfl, rfl, by decide⟩ ⟨rfl, fun _ => rfl, fun _ => rfl⟩ rfl hl.1 rfl (Nat.le_of_ble_eq_true rfl) ⟨Nat.zero_le _, Nat.zero_le _⟩ d_A_quotientOfFinite_4 (fun r_4 u H locs hw hP hD hS => ?_)
  subst hw
  refine lv_istore (lv' := [(6, .int r_4), (0, .long x0), (2, .long x2), (4, .long x4)]) hx hb d_A_quotientOfFinite_7 hl (by decide) rfl (fun ls hl => ?_)
  refine lv_lload hx hb d_A_quotientOfFinite_9 (lv_at hl 3 rfl) ?_
  obtain ⟨o_11, ho_11, hf⟩ := zbd hf
  refine zSl (isC := []) (isR := []) (isN := []) (wc := []) (wr := []) (wn := fun u => []) (rest := []) (As := [.long x4]) hF zn_A_37 (k_B_mantissa κ X hX l H.size x4 o_11 ho_11) hX hXs hK hA hP hD hS ⟨by decide, by decide⟩ ⟨rfl, rfl, rfl, rfl, rfl, by decide⟩ ⟨rfl, fun _ => rfl, fun _ => rfl⟩ rfl hl.1 rfl (Nat.le_of_ble_eq_true rfl) ⟨Nat.zero_le _, Nat.zero_le _⟩ d_A_quotientOfFinite_11 (fun r_11 u H locs hw hP hD hS => ?_)
  subst hw
  obtain ⟨o_14, ho_14, hf⟩ := zbd hf
  refine zSi (isC := []) (isR := []) (isN := []) (wc := []) (wr := []) (wn := fun u => []) (rest := []) (As := [.long r_11]) hF zn_A_57 (k_B_lift κ X hX l H.size r_11 o_14 ho_14) hX hXs hK hA hP hD hS ⟨by decide, by decide⟩ ⟨rfl, rfl, rfl, rfl, rfl, by decide⟩ ⟨rfl, fun _ => rfl, fun _ => rfl⟩ rfl hl.1 rfl (Nat.le_of_ble_eq_true rfl) ⟨Nat.zero_le _, Nat.zero_le _⟩ d_A_quotientOfFinite_14 (fun r_14 u H locs hw hP hD hS => ?_)
  subst hw
  refine lv_istore (lv' := [(7, .int r_14), (6, .int r_4), (0, .long x0), (2, .long x2), (4, .long x4)]) hx hb d_A_quotientOfFinite_17 hl (by decide) rfl (fun ls hl => ?_)
  refine lv_lload hx hb d_A_quotientOfFinite_19 (lv_at hl 4 rfl) ?_
  obtain ⟨o_21, ho_21, hf⟩ := zbd hf
  refine zSl (isC := []) (isR := []) (isN := []) (wc := []) (wr := []) (wn := fun u => []) (rest := []) (As := [.long x4]) hF zn_A_37 (k_B_mantissa κ X hX l H.size x4 o_21 ho_21) hX hXs hK hA hP hD hS ⟨by decide, by decide⟩ ⟨rfl, rfl, rfl, rfl, rfl, by decide⟩ ⟨rfl, fun _ => rfl, fun _ => rfl⟩ rfl hl.1 rfl (Nat.le_of_ble_eq_true rfl) ⟨Nat.zero_le _, Nat.zero_le _⟩ d_A_quotientOfFinite_21 (fun r_21 u H locs hw hP hD hS => ?_)
  subst hw
  refine lv_iload hx hb d_A_quotientOfFinite_24 (lv_at hl 0 rfl) ?_
  refine lv_lshl (v := (jlshl r_21 r_14)) hx hb d_A_quotientOfFinite_26 rfl ?_
  refine lv_lstore (lv' := [(8, .long (jlshl r_21 r_14)), (7, .int r_14), (6, .int r_4), (0, .long x0), (2, .long x2), (4, .long x4)]) hx hb d_A_quotientOfFinite_27 hl (by decide) rfl (fun ls hl => ?_)
  refine lv_lload_n hx hb d_A_quotientOfFinite_29 rfl (lv_at hl 4 rfl) ?_
  obtain ⟨o_30, ho_30, hf⟩ := zbd hf
  refine zSl (isC := []) (isR := []) (isN := []) (wc := []) (wr := []) (wn := fun u => []) (rest := []) (As := [.long x2]) hF zn_A_37 (k_B_mantissa κ X hX l H.size x2 o_30 ho_30) hX hXs hK hA hP hD hS ⟨by decide, by decide⟩ ⟨rfl, rfl, rfl, rfl, rfl, by decide⟩ ⟨rfl, fun _ => rfl, fun _ => rfl⟩ rfl hl.1 rfl (Nat.le_of_ble_eq_true rfl) ⟨Nat.zero_le _, Nat.zero_le _⟩ d_A_quotientOfFinite_30 (fun r_30 u H locs hw hP hD hS => ?_)
  subst hw
  refine lv_iload hx hb d_A_quotientOfFinite_33 (lv_at hl 2 rfl) ?_
  refine lv_lshl (v := (jlshl r_30 r_4)) hx hb d_A_quotientOfFinite_35 rfl ?_
  refine lv_lstore (lv' := [(10, .long (jlshl r_30 r_4)), (8, .long (jlshl r_21 r_14)), (7, .int r_14), (6, .int r_4), (0, .long x0), (2, .long x2), (4, .long x4)]) hx hb d_A_quotientOfFinite_36 hl (by decide) rfl (fun ls hl => ?_)
  refine lv_lconst (v := 0) hx hb d_A_quotientOfFinite_38 (by decide) ?_
  refine lv_lstore (lv' := [(12, .long 0), (10, .long (jlshl r_30 r_4)), (8, .long (jlshl r_21 r_14)), (7, .int r_14), (6, .int r_4), (0, .long x0), (2, .long x2), (4, .long x4)]) hx hb d_A_quotientOfFinite_39 hl (by decide) rfl (fun ls hl => ?_)
  refine lv_iconst (v := 0) hx hb d_A_quotientOfFinite_41 (by decide) ?_
  refine lv_istore (lv' := [(14, .int 0), (12, .long 0), (10, .long (jlshl r_30 r_4)), (8, .long (jlshl r_21 r_14)), (7, .int r_14), (6, .int r_4), (0, .long x0), (2, .long x2), (4, .long x4)]) hx hb d_A_quotientOfFinite_42 hl (by decide) rfl (fun ls hl => ?_)
  exact b_44 x0 x2 x4 r_4 r_14 (jlshl r_21 r_14) (jlshl r_30 r_4) 0 0 H locs ls hf hP hD hS (lv_sub hl [6, 7, 8, 5, 4, 3, 2, 1, 0] rfl)
theorem d_A_quotient_0 : decode c_A_quotient 0 = .ok (.lload_n 0, 1) := by decide +kernel
theorem d_A_quotient_1 : decode c_A_quotient 1 = .ok (.invokestatic 9, 3) := by decide +kernel
theorem d_A_quotient_4 : decode c_A_quotient 4 = .ok (.ifCond .ne 10, 3) := by decide +kernel
theorem d_A_quotient_7 : decode c_A_quotient 7 = .ok (.lload_n 2, 1) := by decide +kernel
theorem d_A_quotient_8 : decode c_A_quotient 8 = .ok (.invokestatic 9, 3) := by decide +kernel
theorem d_A_quotient_11 : decode c_A_quotient 11 = .ok (.ifCond .eq 7, 3) := by decide +kernel
theorem d_A_quotient_14 : decode c_A_quotient 14 = .ok (.ldc2_w 15, 3) := by decide +kernel
theorem d_A_quotient_17 : decode c_A_quotient 17 = .ok (.lreturn, 1) := by decide +kernel
theorem d_A_quotient_18 : decode c_A_quotient 18 = .ok (.lload_n 0, 1) := by decide +kernel
theorem d_A_quotient_19 : decode c_A_quotient 19 = .ok (.invokestatic 17, 3) := by decide +kernel
theorem d_A_quotient_22 : decode c_A_quotient 22 = .ok (.ifCond .eq 14, 3) := by decide +kernel
theorem d_A_quotient_25 : decode c_A_quotient 25 = .ok (.lload_n 2, 1) := by decide +kernel
theorem d_A_quotient_26 : decode c_A_quotient 26 = .ok (.invokestatic 17, 3) := by decide +kernel
theorem d_A_quotient_29 : decode c_A_quotient 29 = .ok (.ifCond .eq 7, 3) := by decide +kernel
theorem d_A_quotient_32 : decode c_A_quotient 32 = .ok (.iconst 1, 1) := by decide +kernel
theorem d_A_quotient_33 : decode c_A_quotient 33 = .ok (.goto 4, 3) := by decide +kernel
theorem d_A_quotient_36 : decode c_A_quotient 36 = .ok (.iconst 0, 1) := by decide +kernel
theorem d_A_quotient_37 : decode c_A_quotient 37 = .ok (.istore 4, 2) := by decide +kernel
theorem d_A_quotient_39 : decode c_A_quotient 39 = .ok (.lload_n 0, 1) := by decide +kernel
theorem d_A_quotient_40 : decode c_A_quotient 40 = .ok (.invokestatic 48, 3) := by decide +kernel
theorem d_A_quotient_43 : decode c_A_quotient 43 = .ok (.ifCond .eq 14, 3) := by decide +kernel
theorem d_A_quotient_46 : decode c_A_quotient 46 = .ok (.lload_n 2, 1) := by decide +kernel
theorem d_A_quotient_47 : decode c_A_quotient 47 = .ok (.invokestatic 48, 3) := by decide +kernel
theorem d_A_quotient_50 : decode c_A_quotient 50 = .ok (.ifCond .eq 7, 3) := by decide +kernel
theorem d_A_quotient_53 : decode c_A_quotient 53 = .ok (.iconst 1, 1) := by decide +kernel
theorem d_A_quotient_54 : decode c_A_quotient 54 = .ok (.goto 4, 3) := by decide +kernel
theorem d_A_quotient_57 : decode c_A_quotient 57 = .ok (.iconst 0, 1) := by decide +kernel
theorem d_A_quotient_58 : decode c_A_quotient 58 = .ok (.istore 5, 2) := by decide +kernel
theorem d_A_quotient_60 : decode c_A_quotient 60 = .ok (.iload 4, 2) := by decide +kernel
theorem d_A_quotient_62 : decode c_A_quotient 62 = .ok (.ifCond .ne 8, 3) := by decide +kernel
theorem d_A_quotient_65 : decode c_A_quotient 65 = .ok (.iload 5, 2) := by decide +kernel
theorem d_A_quotient_67 : decode c_A_quotient 67 = .ok (.ifCond .eq 7, 3) := by decide +kernel
theorem d_A_quotient_70 : decode c_A_quotient 70 = .ok (.ldc2_w 15, 3) := by decide +kernel
theorem d_A_quotient_73 : decode c_A_quotient 73 = .ok (.lreturn, 1) := by decide +kernel
theorem d_A_quotient_74 : decode c_A_quotient 74 = .ok (.lload_n 0, 1) := by decide +kernel
theorem d_A_quotient_75 : decode c_A_quotient 75 = .ok (.lload_n 2, 1) := by decide +kernel
theorem d_A_quotient_76 : decode c_A_quotient 76 = .ok (.lxor, 1) := by decide +kernel
theorem d_A_quotient_77 : decode c_A_quotient 77 = .ok (.ldc2_w 28, 3) := by decide +kernel
theorem d_A_quotient_80 : decode c_A_quotient 80 = .ok (.land, 1) := by decide +kernel
theorem d_A_quotient_81 : decode c_A_quotient 81 = .ok (.lstore 6, 2) := by decide +kernel
theorem d_A_quotient_83 : decode c_A_quotient 83 = .ok (.lload_n 0, 1) := by decide +kernel
theorem d_A_quotient_84 : decode c_A_quotient 84 = .ok (.invokestatic 17, 3) := by decide +kernel
theorem d_A_quotient_87 : decode c_A_quotient 87 = .ok (.ifCond .ne 10, 3) := by decide +kernel
theorem d_A_quotient_90 : decode c_A_quotient 90 = .ok (.lload_n 2, 1) := by decide +kernel
theorem d_A_quotient_91 : decode c_A_quotient 91 = .ok (.invokestatic 48, 3) := by decide +kernel
theorem d_A_quotient_94 : decode c_A_quotient 94 = .ok (.ifCond .eq 10, 3) := by decide +kernel
theorem d_A_quotient_97 : decode c_A_quotient 97 = .ok (.lload 6, 2) := by decide +kernel
theorem d_A_quotient_99 : decode c_A_quotient 99 = .ok (.ldc2_w 51, 3) := by decide +kernel
theorem d_A_quotient_102 : decode c_A_quotient 102 = .ok (.lor, 1) := by decide +kernel
theorem d_A_quotient_103 : decode c_A_quotient 103 = .ok (.lreturn, 1) := by decide +kernel
theorem d_A_quotient_104 : decode c_A_quotient 104 = .ok (.lload_n 0, 1) := by decide +kernel
theorem d_A_quotient_105 : decode c_A_quotient 105 = .ok (.invokestatic 48, 3) := by decide +kernel
theorem d_A_quotient_108 : decode c_A_quotient 108 = .ok (.ifCond .ne 10, 3) := by decide +kernel
theorem d_A_quotient_111 : decode c_A_quotient 111 = .ok (.lload_n 2, 1) := by decide +kernel
theorem d_A_quotient_112 : decode c_A_quotient 112 = .ok (.invokestatic 17, 3) := by decide +kernel
theorem d_A_quotient_115 : decode c_A_quotient 115 = .ok (.ifCond .eq 6, 3) := by decide +kernel
theorem d_A_quotient_118 : decode c_A_quotient 118 = .ok (.lload 6, 2) := by decide +kernel
theorem d_A_quotient_120 : decode c_A_quotient 120 = .ok (.lreturn, 1) := by decide +kernel
theorem d_A_quotient_121 : decode c_A_quotient 121 = .ok (.lload 6, 2) := by decide +kernel
theorem d_A_quotient_123 : decode c_A_quotient 123 = .ok (.lload_n 0, 1) := by decide +kernel
theorem d_A_quotient_124 : decode c_A_quotient 124 = .ok (.lload_n 2, 1) := by decide +kernel
theorem d_A_quotient_125 : decode c_A_quotient 125 = .ok (.invokestatic 62, 3) := by decide +kernel
theorem d_A_quotient_128 : decode c_A_quotient 128 = .ok (.lreturn, 1) := by decide +kernel
theorem zn_A_62 : zNS R_A 62 y_A_quotientOfFinite c_A_quotientOfFinite 15 (some .long) 3 := ⟨zco_A_quotientOfFinite, zin_A, zml_A_62, zst_A_quotientOfFinite, by decide +kernel⟩
set_option maxHeartbeats 4000000 in
set_option maxRecDepth 100000 in
theorem k_A_quotient (κ : zC) (X : zXT) (hX : zX κ X) (l : Launch) (sz : Nat) (x0 : Int64) (x2 : Int64) (out : Int64) (hf : f_A_quotient x0 x2 = some out) : zMet κ X l y_A_quotient c_A_quotient 8 (some .long) 4 106 [.long x0, .long x2] sz [] (zQl κ (fun (r : Int64) (_ : Unit) => r = out) (fun u => [])) := by
  refine zMet.ofL (by decide +kernel) (Nat.le_of_ble_eq_true rfl) ?_
  intro p e s m args below meth c ls A Q hF hK hP hD hA hXs hS hl hret
  obtain ⟨hx, hb, hml, hown, hts⟩ := id hF
  obtain ⟨H, hH⟩ : ∃ H, H = s.heap := ⟨_, rfl⟩
  obtain ⟨locs, hlo⟩ : ∃ z : List Loc, z = [] := ⟨_, rfl⟩
  replace hP : zP κ [] H := by rw [hH]; exact hP
  replace hS : va_S A s.heap H locs := by rw [hH, hlo]; exact hS
  suffices hgo : W p l e (zR 4 106) s m args below meth c H locs 0 0 Q (F0 m 0 ls []) by rw [hH, hlo] at hgo; exact hgo
  clear hH hlo
  replace hl : lv_has ls 8 [(0, .long x0), (2, .long x2)] := hl
  have b_97 : ∀ (x6 : Int64) (H : Heap) (locs : List Loc) (ls : Array Slot), f_A_quotient_97 x6 = some out → zP κ [] H → va_D A [] → va_S A s.heap H locs → lv_has ls 8 [(6, .long x6)] → W p l e (zR 4 106) s m args below meth c H locs 0 0 Q (F0 m 97 ls []) := by
    intro x6 H locs ls hf hP hD hS hl
    unfold f_A_quotient_97 at hf
    refine lv_lload hx hb d_A_quotient_97 (lv_at hl 0 rfl) ?_
    refine lv_ldc2 (v := 9218868437227405312) hx hb hown (hts _ zkl_A_51) d_A_quotient_99 ?_
    refine lv_lor hx hb d_A_quotient_102 ?_
    exact hret ((x6 ||| 9218868437227405312)) () H locs ls _ d_A_quotient_103 hP hD hS (Option.some.inj hf)
  have b_58 : ∀ (x0 : Int64) (x2 : Int64) (x4 : Int32) (s0 : Int32) (H : Heap) (locs : List Loc) (ls : Array Slot), f_A_quotient_58 x0 x2 x4 s0 = some out → zP κ [] H → va_D A [] → va_S A s.heap H locs → lv_has ls 8 [(0, .long x0), (2, .long x2), (4, .int x4)] → W p l e (zR 4 106) s m args below meth c H locs 0 0 Q (F0 m 58 ls [.int s0]) := by
    intro x0 x2 x4 s0 H locs ls hf hP hD hS hl
    unfold f_A_quotient_58 at hf
    refine lv_istore (lv' := [(5, .int s0), (0, .long x0), (2, .long x2), (4, .int x4)]) hx hb d_A_quotient_58 hl (by decide) rfl (fun ls hl => ?_)
    refine lv_iload hx hb d_A_quotient_60 (lv_at hl 3 rfl) ?_
    refine lv_if_ne (tgt := 70) hx hb d_A_quotient_62 (by decide) (fun c_62 => ?_) (fun c_62 => ?_)
    · have hf := (zbr hf).2 c_62
      refine lv_ldc2 (v := 9221120237041090560) hx hb hown (hts _ zkl_A_15) d_A_quotient_70 ?_
      exact hret ((9221120237041090560 : Int64)) () H locs ls _ d_A_quotient_73 hP hD hS (Option.some.inj hf)
    · have hf := (zbr hf).1 c_62
      refine lv_iload hx hb d_A_quotient_65 (lv_at hl 0 rfl) ?_
      refine lv_if_eq (tgt := 74) hx hb d_A_quotient_67 (by decide) (fun c_67 => ?_) (fun c_67 => ?_)
      · have hf := (zbr hf).1 c_67
        refine lv_lload_n hx hb d_A_quotient_74 rfl (lv_at hl 1 rfl) ?_
        refine lv_lload_n hx hb d_A_quotient_75 rfl (lv_at hl 2 rfl) ?_
        refine lv_lxor hx hb d_A_quotient_76 ?_
        refine lv_ldc2 (v := (-9223372036854775808)) hx hb hown (hts _ zkl_A_28) d_A_quotient_77 ?_
        refine lv_land hx hb d_A_quotient_80 ?_
        refine lv_lstore (lv' := [(6, .long ((x0 ^^^ x2) &&& (-9223372036854775808))), (5, .int s0), (0, .long x0), (2, .long x2), (4, .int x4)]) hx hb d_A_quotient_81 hl (by decide) rfl (fun ls hl => ?_)
        refine lv_lload_n hx hb d_A_quotient_83 rfl (lv_at hl 2 rfl) ?_
        obtain ⟨o_84, ho_84, hf⟩ := zbd hf
        refine zSi (isC := []) (isR := []) (isN := []) (wc := []) (wr := []) (wn := fun u => []) (rest := []) (As := [.long x0]) hF zn_A_17 (k_B_isInfinite κ X hX l H.size x0 o_84 ho_84) hX hXs hK hA hP hD hS ⟨by decide, by decide⟩ ⟨rfl, rfl, rfl, rfl, rfl, by decide⟩ ⟨rfl, fun _ => rfl, fun _ => rfl⟩ rfl hl.1 rfl (Nat.le_of_ble_eq_true rfl) ⟨Nat.zero_le _, Nat.zero_le _⟩ d_A_quotient_84 (fun r_84 u H locs hw hP hD hS => ?_)
        subst hw
        refine lv_if_ne (tgt := 97) hx hb d_A_quotient_87 (by decide) (fun c_87 => ?_) (fun c_87 => ?_)
        · have hf := (zbr hf).2 c_87
          exact b_97 ((x0 ^^^ x2) &&& (-9223372036854775808)) H locs ls hf hP hD hS (lv_sub hl [0] rfl)
        · have hf := (zbr hf).1 c_87
          refine lv_lload_n hx hb d_A_quotient_90 rfl (lv_at hl 3 rfl) ?_
          obtain ⟨o_91, ho_91, hf⟩ := zbd hf
          refine zSi (isC := []) (isR := []) (isN := []) (wc := []) (wr := []) (wn := fun u => []) (rest := []) (As := [.long x2]) hF zn_A_48 (k_B_isZero κ X hX l H.size x2 o_91 ho_91) hX hXs hK hA hP hD hS ⟨by decide, by decide⟩ ⟨rfl, rfl, rfl, rfl, rfl, by decide⟩ ⟨rfl, fun _ => rfl, fun _ => rfl⟩ rfl hl.1 rfl (Nat.le_of_ble_eq_true rfl) ⟨Nat.zero_le _, Nat.zero_le _⟩ d_A_quotient_91 (fun r_91 u H locs hw hP hD hS => ?_)
          subst hw
          refine lv_if_eq (tgt := 104) hx hb d_A_quotient_94 (by decide) (fun c_94 => ?_) (fun c_94 => ?_)
          · have hf := (zbr hf).1 c_94
            refine lv_lload_n hx hb d_A_quotient_104 rfl (lv_at hl 2 rfl) ?_
            obtain ⟨o_105, ho_105, hf⟩ := zbd hf
            refine zSi (isC := []) (isR := []) (isN := []) (wc := []) (wr := []) (wn := fun u => []) (rest := []) (As := [.long x0]) hF zn_A_48 (k_B_isZero κ X hX l H.size x0 o_105 ho_105) hX hXs hK hA hP hD hS ⟨by decide, by decide⟩ ⟨rfl, rfl, rfl, rfl, rfl, by decide⟩ ⟨rfl, fun _ => rfl, fun _ => rfl⟩ rfl hl.1 rfl (Nat.le_of_ble_eq_true rfl) ⟨Nat.zero_le _, Nat.zero_le _⟩ d_A_quotient_105 (fun r_105 u H locs hw hP hD hS => ?_)
            subst hw
            refine lv_if_ne (tgt := 118) hx hb d_A_quotient_108 (by decide) (fun c_108 => ?_) (fun c_108 => ?_)
            · have hf := (zbr hf).2 c_108
              refine lv_lload hx hb d_A_quotient_118 (lv_at hl 0 rfl) ?_
              exact hret (((x0 ^^^ x2) &&& (-9223372036854775808))) () H locs ls _ d_A_quotient_120 hP hD hS (Option.some.inj hf)
            · have hf := (zbr hf).1 c_108
              refine lv_lload_n hx hb d_A_quotient_111 rfl (lv_at hl 3 rfl) ?_
              obtain ⟨o_112, ho_112, hf⟩ := zbd hf
              refine zSi (isC := []) (isR := []) (isN := []) (wc := []) (wr := []) (wn := fun u => []) (rest := []) (As := [.long x2]) hF zn_A_17 (k_B_isInfinite κ X hX l H.size x2 o_112 ho_112) hX hXs hK hA hP hD hS ⟨by decide, by decide⟩ ⟨rfl, rfl, rfl, rfl, rfl, by decide⟩ ⟨rfl, fun _ => rfl, fun _ => rfl⟩ rfl hl.1 rfl (Nat.le_of_ble_eq_true rfl) ⟨Nat.zero_le _, Nat.zero_le _⟩ d_A_quotient_112 (fun r_112 u H locs hw hP hD hS => ?_)
              subst hw
              refine lv_if_eq (tgt := 121) hx hb d_A_quotient_115 (by decide) (fun c_115 => ?_) (fun c_115 => ?_)
              · have hf := (zbr hf).1 c_115
                refine lv_lload hx hb d_A_quotient_121 (lv_at hl 0 rfl) ?_
                refine lv_lload_n hx hb d_A_quotient_123 rfl (lv_at hl 2 rfl) ?_
                refine lv_lload_n hx hb d_A_quotient_124 rfl (lv_at hl 3 rfl) ?_
                obtain ⟨o_125, ho_125, hf⟩ := zbd hf
                refine zSl (isC := []) (isR := []) (isN := []) (wc := []) (wr := []) (wn := fun u => []) (rest := []) (As := [.long ((x0 ^^^ x2) &&& (-9223372036854775808)), .long x0, .long x2]) hF zn_A_62 (k_A_quotientOfFinite κ X hX l H.size ((x0 ^^^ x2) &&& (-9223372036854775808)) x0 x2 o_125 ho_125) hX hXs hK hA hP hD hS ⟨by decide, by decide⟩ ⟨rfl, rfl, rfl, rfl, rfl, by decide⟩ ⟨rfl, fun _ => rfl, fun _ => rfl⟩ rfl hl.1 rfl (Nat.le_of_ble_eq_true rfl) ⟨Nat.zero_le _, Nat.zero_le _⟩ d_A_quotient_125 (fun r_125 u H locs hw hP hD hS => ?_)
                subst hw
                exact hret (r_125) () H locs ls _ d_A_quotient_128 hP hD hS (Option.some.inj hf)
              · have hf := (zbr hf).2 c_115
                refine lv_lload hx hb d_A_quotient_118 (lv_at hl 0 rfl) ?_
                exact hret (((x0 ^^^ x2) &&& (-9223372036854775808))) () H locs ls _ d_A_quotient_120 hP hD hS (Option.some.inj hf)
          · have hf := (zbr hf).2 c_94
            exact b_97 ((x0 ^^^ x2) &&& (-9223372036854775808)) H locs ls hf hP hD hS (lv_sub hl [0] rfl)
      · have hf := (zbr hf).2 c_67
        refine lv_ldc2 (v := 9221120237041090560) hx hb hown (hts _ zkl_A_15) d_A_quotient_70 ?_
        exact hret ((9221120237041090560 : Int64)) () H locs ls _ d_A_quotient_73 hP hD hS (Option.some.inj hf)
  have b_57 : ∀ (x0 : Int64) (x2 : Int64) (x4 : Int32) (H : Heap) (locs : List Loc) (ls : Array Slot), f_A_quotient_57 x0 x2 x4 = some out → zP κ [] H → va_D A [] → va_S A s.heap H locs → lv_has ls 8 [(0, .long x0), (2, .long x2), (4, .int x4)] → W p l e (zR 4 106) s m args below meth c H locs 0 0 Q (F0 m 57 ls []) := by
    intro x0 x2 x4 H locs ls hf hP hD hS hl
    unfold f_A_quotient_57 at hf
    refine lv_iconst (v := 0) hx hb d_A_quotient_57 (by decide) ?_
    exact b_58 x0 x2 x4 0 H locs ls hf hP hD hS hl
  have b_37 : ∀ (x0 : Int64) (x2 : Int64) (s0 : Int32) (H : Heap) (locs : List Loc) (ls : Array Slot), f_A_quotient_37 x0 x2 s0 = some out → zP κ [] H → va_D A [] → va_S A s.heap H locs → lv_has ls 8 [(0, .long x0), (2, .long x2)] → W p l e (zR 4 106) s m args below meth c H locs 0 0 Q (F0 m 37 ls [.int s0]) := by
    intro x0 x2 s0 H locs ls hf hP hD hS hl
    unfold f_A_quotient_37 at hf
    refine lv_istore (lv' := [(4, .int s0), (0, .long x0), (2, .long x2)]) hx hb d_A_quotient_37 hl (by decide) rfl (fun ls hl => ?_)
    refine lv_lload_n hx hb d_A_quotient_39 rfl (lv_at hl 1 rfl) ?_
    obtain ⟨o_40, ho_40, hf⟩ := zbd hf
    refine zSi (isC := []) (isR := []) (isN := []) (wc := []) (wr := []) (wn := fun u => []) (rest := []) (As := [.long x0]) hF zn_A_48 (k_B_isZero κ X hX l H.size x0 o_40 ho_40) hX hXs hK hA hP hD hS ⟨by decide, by decide⟩ ⟨rfl, rfl, rfl, rfl, rfl, by decide⟩ ⟨rfl, fun _ => rfl, fun _ => rfl⟩ rfl hl.1 rfl (Nat.le_of_ble_eq_true rfl) ⟨Nat.zero_le _, Nat.zero_le _⟩ d_A_quotient_40 (fun r_40 u H locs hw hP hD hS => ?_)
    subst hw
    refine lv_if_eq (tgt := 57) hx hb d_A_quotient_43 (by decide) (fun c_43 => ?_) (fun c_43 => ?_)
    · have hf := (zbr hf).1 c_43
      exact b_57 x0 x2 s0 H locs ls hf hP hD hS (lv_sub hl [1, 2, 0] rfl)
    · have hf := (zbr hf).2 c_43
      refine lv_lload_n hx hb d_A_quotient_46 rfl (lv_at hl 2 rfl) ?_
      obtain ⟨o_47, ho_47, hf⟩ := zbd hf
      refine zSi (isC := []) (isR := []) (isN := []) (wc := []) (wr := []) (wn := fun u => []) (rest := []) (As := [.long x2]) hF zn_A_48 (k_B_isZero κ X hX l H.size x2 o_47 ho_47) hX hXs hK hA hP hD hS ⟨by decide, by decide⟩ ⟨rfl, rfl, rfl, rfl, rfl, by decide⟩ ⟨rfl, fun _ => rfl, fun _ => rfl⟩ rfl hl.1 rfl (Nat.le_of_ble_eq_true rfl) ⟨Nat.zero_le _, Nat.zero_le _⟩ d_A_quotient_47 (fun r_47 u H locs hw hP hD hS => ?_)
      subst hw
      refine lv_if_eq (tgt := 57) hx hb d_A_quotient_50 (by decide) (fun c_50 => ?_) (fun c_50 => ?_)
      · have hf := (zbr hf).1 c_50
        exact b_57 x0 x2 s0 H locs ls hf hP hD hS (lv_sub hl [1, 2, 0] rfl)
      · have hf := (zbr hf).2 c_50
        refine lv_iconst (v := 1) hx hb d_A_quotient_53 (by decide) ?_
        refine lv_goto (tgt := 58) hx hb d_A_quotient_54 (by decide) ?_
        exact b_58 x0 x2 s0 1 H locs ls hf hP hD hS (lv_sub hl [1, 2, 0] rfl)
  have b_36 : ∀ (x0 : Int64) (x2 : Int64) (H : Heap) (locs : List Loc) (ls : Array Slot), f_A_quotient_36 x0 x2 = some out → zP κ [] H → va_D A [] → va_S A s.heap H locs → lv_has ls 8 [(0, .long x0), (2, .long x2)] → W p l e (zR 4 106) s m args below meth c H locs 0 0 Q (F0 m 36 ls []) := by
    intro x0 x2 H locs ls hf hP hD hS hl
    unfold f_A_quotient_36 at hf
    refine lv_iconst (v := 0) hx hb d_A_quotient_36 (by decide) ?_
    exact b_37 x0 x2 0 H locs ls hf hP hD hS hl
  unfold f_A_quotient at hf
  refine lv_lload_n hx hb d_A_quotient_0 rfl (lv_at hl 0 rfl) ?_
  obtain ⟨o_1, ho_1, hf⟩ := zbd hf
  refine zSi (isC := []) (isR := []) (isN := []) (wc := []) (wr := []) (wn := fun u => []) (rest := []) (As := [.long x0]) hF zn_A_9 (k_B_isNan κ X hX l H.size x0 o_1 ho_1) hX hXs hK hA hP hD hS ⟨by decide, by decide⟩ ⟨rfl, rfl, rfl, rfl, rfl, by decide⟩ ⟨rfl, fun _ => rfl, fun _ => rfl⟩ rfl hl.1 rfl (Nat.le_of_ble_eq_true rfl) ⟨Nat.zero_le _, Nat.zero_le _⟩ d_A_quotient_1 (fun r_1 u H locs hw hP hD hS => ?_)
  subst hw
  refine lv_if_ne (tgt := 14) hx hb d_A_quotient_4 (by decide) (fun c_4 => ?_) (fun c_4 => ?_)
  · have hf := (zbr hf).2 c_4
    refine lv_ldc2 (v := 9221120237041090560) hx hb hown (hts _ zkl_A_15) d_A_quotient_14 ?_
    exact hret ((9221120237041090560 : Int64)) () H locs ls _ d_A_quotient_17 hP hD hS (Option.some.inj hf)
  · have hf := (zbr hf).1 c_4
    refine lv_lload_n hx hb d_A_quotient_7 rfl (lv_at hl 1 rfl) ?_
    obtain ⟨o_8, ho_8, hf⟩ := zbd hf
    refine zSi (isC := []) (isR := []) (isN := []) (wc := []) (wr := []) (wn := fun u => []) (rest := []) (As := [.long x2]) hF zn_A_9 (k_B_isNan κ X hX l H.size x2 o_8 ho_8) hX hXs hK hA hP hD hS ⟨by decide, by decide⟩ ⟨rfl, rfl, rfl, rfl, rfl, by decide⟩ ⟨rfl, fun _ => rfl, fun _ => rfl⟩ rfl hl.1 rfl (Nat.le_of_ble_eq_true rfl) ⟨Nat.zero_le _, Nat.zero_le _⟩ d_A_quotient_8 (fun r_8 u H locs hw hP hD hS => ?_)
    subst hw
    refine lv_if_eq (tgt := 18) hx hb d_A_quotient_11 (by decide) (fun c_11 => ?_) (fun c_11 => ?_)
    · have hf := (zbr hf).1 c_11
      refine lv_lload_n hx hb d_A_quotient_18 rfl (lv_at hl 0 rfl) ?_
      obtain ⟨o_19, ho_19, hf⟩ := zbd hf
      refine zSi (isC := []) (isR := []) (isN := []) (wc := []) (wr := []) (wn := fun u => []) (rest := []) (As := [.long x0]) hF zn_A_17 (k_B_isInfinite κ X hX l H.size x0 o_19 ho_19) hX hXs hK hA hP hD hS ⟨by decide, by decide⟩ ⟨rfl, rfl, rfl, rfl, rfl, by decide⟩ ⟨rfl, fun _ => rfl, fun _ => rfl⟩ rfl hl.1 rfl (Nat.le_of_ble_eq_true rfl) ⟨Nat.zero_le _, Nat.zero_le _⟩ d_A_quotient_19 (fun r_19 u H locs hw hP hD hS => ?_)
      subst hw
      refine lv_if_eq (tgt := 36) hx hb d_A_quotient_22 (by decide) (fun c_22 => ?_) (fun c_22 => ?_)
      · have hf := (zbr hf).1 c_22
        exact b_36 x0 x2 H locs ls hf hP hD hS hl
      · have hf := (zbr hf).2 c_22
        refine lv_lload_n hx hb d_A_quotient_25 rfl (lv_at hl 1 rfl) ?_
        obtain ⟨o_26, ho_26, hf⟩ := zbd hf
        refine zSi (isC := []) (isR := []) (isN := []) (wc := []) (wr := []) (wn := fun u => []) (rest := []) (As := [.long x2]) hF zn_A_17 (k_B_isInfinite κ X hX l H.size x2 o_26 ho_26) hX hXs hK hA hP hD hS ⟨by decide, by decide⟩ ⟨rfl, rfl, rfl, rfl, rfl, by decide⟩ ⟨rfl, fun _ => rfl, fun _ => rfl⟩ rfl hl.1 rfl (Nat.le_of_ble_eq_true rfl) ⟨Nat.zero_le _, Nat.zero_le _⟩ d_A_quotient_26 (fun r_26 u H locs hw hP hD hS => ?_)
        subst hw
        refine lv_if_eq (tgt := 36) hx hb d_A_quotient_29 (by decide) (fun c_29 => ?_) (fun c_29 => ?_)
        · have hf := (zbr hf).1 c_29
          exact b_36 x0 x2 H locs ls hf hP hD hS hl
        · have hf := (zbr hf).2 c_29
          refine lv_iconst (v := 1) hx hb d_A_quotient_32 (by decide) ?_
          refine lv_goto (tgt := 37) hx hb d_A_quotient_33 (by decide) ?_
          exact b_37 x0 x2 1 H locs ls hf hP hD hS hl
    · have hf := (zbr hf).2 c_11
      refine lv_ldc2 (v := 9221120237041090560) hx hb hown (hts _ zkl_A_15) d_A_quotient_14 ?_
      exact hret ((9221120237041090560 : Int64)) () H locs ls _ d_A_quotient_17 hP hD hS (Option.some.inj hf)
theorem d_A_remainder_0 : decode c_A_remainder 0 = .ok (.lload_n 2, 1) := by decide +kernel
theorem d_A_remainder_1 : decode c_A_remainder 1 = .ok (.invokestatic 37, 3) := by decide +kernel
theorem d_A_remainder_4 : decode c_A_remainder 4 = .ok (.lstore 4, 2) := by decide +kernel
theorem d_A_remainder_6 : decode c_A_remainder 6 = .ok (.lload_n 0, 1) := by decide +kernel
theorem d_A_remainder_7 : decode c_A_remainder 7 = .ok (.invokestatic 9, 3) := by decide +kernel
theorem d_A_remainder_10 : decode c_A_remainder 10 = .ok (.ifCond .ne 24, 3) := by decide +kernel
theorem d_A_remainder_13 : decode c_A_remainder 13 = .ok (.lload_n 2, 1) := by decide +kernel
theorem d_A_remainder_14 : decode c_A_remainder 14 = .ok (.invokestatic 9, 3) := by decide +kernel
theorem d_A_remainder_17 : decode c_A_remainder 17 = .ok (.ifCond .ne 17, 3) := by decide +kernel
theorem d_A_remainder_20 : decode c_A_remainder 20 = .ok (.lload_n 0, 1) := by decide +kernel
theorem d_A_remainder_21 : decode c_A_remainder 21 = .ok (.invokestatic 17, 3) := by decide +kernel
theorem d_A_remainder_24 : decode c_A_remainder 24 = .ok (.ifCond .ne 10, 3) := by decide +kernel
theorem d_A_remainder_27 : decode c_A_remainder 27 = .ok (.lload 4, 2) := by decide +kernel
theorem d_A_remainder_29 : decode c_A_remainder 29 = .ok (.lconst 0, 1) := by decide +kernel
theorem d_A_remainder_30 : decode c_A_remainder 30 = .ok (.lcmp, 1) := by decide +kernel
theorem d_A_remainder_31 : decode c_A_remainder 31 = .ok (.ifCond .ne 7, 3) := by decide +kernel
theorem d_A_remainder_34 : decode c_A_remainder 34 = .ok (.ldc2_w 15, 3) := by decide +kernel
theorem d_A_remainder_37 : decode c_A_remainder 37 = .ok (.lreturn, 1) := by decide +kernel
theorem d_A_remainder_38 : decode c_A_remainder 38 = .ok (.lload_n 2, 1) := by decide +kernel
theorem d_A_remainder_39 : decode c_A_remainder 39 = .ok (.invokestatic 17, 3) := by decide +kernel
theorem d_A_remainder_42 : decode c_A_remainder 42 = .ok (.ifCond .ne 15, 3) := by decide +kernel
theorem d_A_remainder_45 : decode c_A_remainder 45 = .ok (.lload_n 0, 1) := by decide +kernel
theorem d_A_remainder_46 : decode c_A_remainder 46 = .ok (.invokestatic 20, 3) := by decide +kernel
theorem d_A_remainder_49 : decode c_A_remainder 49 = .ok (.lload_n 2, 1) := by decide +kernel
theorem d_A_remainder_50 : decode c_A_remainder 50 = .ok (.invokestatic 20, 3) := by decide +kernel
theorem d_A_remainder_53 : decode c_A_remainder 53 = .ok (.lcmp, 1) := by decide +kernel
theorem d_A_remainder_54 : decode c_A_remainder 54 = .ok (.ifCond .ge 5, 3) := by decide +kernel
theorem d_A_remainder_57 : decode c_A_remainder 57 = .ok (.lload_n 0, 1) := by decide +kernel
theorem d_A_remainder_58 : decode c_A_remainder 58 = .ok (.lreturn, 1) := by decide +kernel
theorem d_A_remainder_59 : decode c_A_remainder 59 = .ok (.lload_n 0, 1) := by decide +kernel
theorem d_A_remainder_60 : decode c_A_remainder 60 = .ok (.invokestatic 37, 3) := by decide +kernel
theorem d_A_remainder_63 : decode c_A_remainder 63 = .ok (.lload 4, 2) := by decide +kernel
theorem d_A_remainder_65 : decode c_A_remainder 65 = .ok (.lrem, 1) := by decide +kernel
theorem d_A_remainder_66 : decode c_A_remainder 66 = .ok (.lstore 6, 2) := by decide +kernel
theorem d_A_remainder_68 : decode c_A_remainder 68 = .ok (.lload_n 0, 1) := by decide +kernel
theorem d_A_remainder_69 : decode c_A_remainder 69 = .ok (.invokestatic 33, 3) := by decide +kernel
theorem d_A_remainder_72 : decode c_A_remainder 72 = .ok (.lload_n 2, 1) := by decide +kernel
theorem d_A_remainder_73 : decode c_A_remainder 73 = .ok (.invokestatic 33, 3) := by decide +kernel
theorem d_A_remainder_76 : decode c_A_remainder 76 = .ok (.isub, 1) := by decide +kernel
theorem d_A_remainder_77 : decode c_A_remainder 77 = .ok (.istore 8, 2) := by decide +kernel
theorem d_A_remainder_79 : decode c_A_remainder 79 = .ok (.iload 8, 2) := by decide +kernel
theorem d_A_remainder_81 : decode c_A_remainder 81 = .ok (.ifCond .le 24, 3) := by decide +kernel
theorem d_A_remainder_84 : decode c_A_remainder 84 = .ok (.lload 6, 2) := by decide +kernel
theorem d_A_remainder_86 : decode c_A_remainder 86 = .ok (.iload 8, 2) := by decide +kernel
theorem d_A_remainder_88 : decode c_A_remainder 88 = .ok (.bipush 10, 2) := by decide +kernel
theorem d_A_remainder_90 : decode c_A_remainder 90 = .ok (.invokestatic 65, 3) := by decide +kernel
theorem d_A_remainder_93 : decode c_A_remainder 93 = .ok (.lshl, 1) := by decide +kernel
theorem d_A_remainder_94 : decode c_A_remainder 94 = .ok (.lload 4, 2) := by decide +kernel
theorem d_A_remainder_96 : decode c_A_remainder 96 = .ok (.lrem, 1) := by decide +kernel
theorem d_A_remainder_97 : decode c_A_remainder 97 = .ok (.lstore 6, 2) := by decide +kernel
theorem d_A_remainder_99 : decode c_A_remainder 99 = .ok (.iinc 8 (-10), 3) := by decide +kernel
theorem d_A_remainder_102 : decode c_A_remainder 102 = .ok (.goto (-23), 3) := by decide +kernel
theorem d_A_remainder_105 : decode c_A_remainder 105 = .ok (.lload_n 0, 1) := by decide +kernel
theorem d_A_remainder_106 : decode c_A_remainder 106 = .ok (.ldc2_w 28, 3) := by decide +kernel
theorem d_A_remainder_109 : decode c_A_remainder 109 = .ok (.land, 1) := by decide +kernel
theorem d_A_remainder_110 : decode c_A_remainder 110 = .ok (.lload 6, 2) := by decide +kernel
theorem d_A_remainder_112 : decode c_A_remainder 112 = .ok (.lload_n 2, 1) := by decide +kernel
theorem d_A_remainder_113 : decode c_A_remainder 113 = .ok (.invokestatic 33, 3) := by decide +kernel
theorem d_A_remainder_116 : decode c_A_remainder 116 = .ok (.invokestatic 44, 3) := by decide +kernel
theorem d_A_remainder_119 : decode c_A_remainder 119 = .ok (.lreturn, 1) := by decide +kernel
set_option maxHeartbeats 4000000 in
set_option maxRecDepth 100000 in
theorem k_A_remainder (κ : zC) (X : zXT) (hX : zX κ X) (l : Launch) (sz : Nat) (x0 : Int64) (x2 : Int64) (out : Int64) (hf : f_A_remainder x0 x2 = some out) : zMet κ X l y_A_remainder c_A_remainder 9 (some .long) 3 72 [.long x0, .long x2] sz [] (zQl κ (fun (r : Int64) (_ : Unit) => r = out) (fun u => [])) := by
  refine zMet.ofL (by decide +kernel) (Nat.le_of_ble_eq_true rfl) ?_
  intro p e s m args below meth c ls A Q hF hK hP hD hA hXs hS hl hret
  obtain ⟨hx, hb, hml, hown, hts⟩ := id hF
  obtain ⟨H, hH⟩ : ∃ H, H = s.heap := ⟨_, rfl⟩
  obtain ⟨locs, hlo⟩ : ∃ z : List Loc, z = [] := ⟨_, rfl⟩
  replace hP : zP κ [] H := by rw [hH]; exact hP
  replace hS : va_S A s.heap H locs := by rw [hH, hlo]; exact hS
  suffices hgo : W p l e (zR 3 72) s m args below meth c H locs 0 0 Q (F0 m 0 ls []) by rw [hH, hlo] at hgo; exact hgo
  clear hH hlo
  replace hl : lv_has ls 9 [(0, .long x0), (2, .long x2)] := hl
  have b_105 : ∀ (x0 : Int64) (x2 : Int64) (x6 : Int64) (H : Heap) (locs : List Loc) (ls : Array Slot), f_A_remainder_105 x0 x2 x6 = some out → zP κ [] H → va_D A [] → va_S A s.heap H locs → lv_has ls 9 [(0, .long x0), (2, .long x2), (6, .long x6)] → W p l e (zR 3 72) s m args below meth c H locs 0 0 Q (F0 m 105 ls []) := by
    intro x0 x2 x6 H locs ls hf hP hD hS hl
    unfold f_A_remainder_105 at hf
    refine lv_lload_n hx hb d_A_remainder_105 rfl (lv_at hl 0 rfl) ?_
    refine lv_ldc2 (v := (-9223372036854775808)) hx hb hown (hts _ zkl_A_28) d_A_remainder_106 ?_
    refine lv_land hx hb d_A_remainder_109 ?_
    refine lv_lload hx hb d_A_remainder_110 (lv_at hl 2 rfl) ?_
    refine lv_lload_n hx hb d_A_remainder_112 rfl (lv_at hl 1 rfl) ?_
    obtain ⟨o_113, ho_113, hf⟩ := zbd hf
    refine zSi (isC := []) (isR := []) (isN := []) (wc := []) (wr := []) (wn := fun u => []) (rest := [.long x6, .long (x0 &&& (-9223372036854775808))]) (As := [.long x2]) hF zn_A_33 (k_B_exponent κ X hX l H.size x2 o_113 ho_113) hX hXs hK hA hP hD hS ⟨by decide, by decide⟩ ⟨rfl, rfl, rfl, rfl, rfl, by decide⟩ ⟨rfl, fun _ => rfl, fun _ => rfl⟩ rfl hl.1 rfl (Nat.le_of_ble_eq_true rfl) ⟨Nat.zero_le _, Nat.zero_le _⟩ d_A_remainder_113 (fun r_113 u H locs hw hP hD hS => ?_)
    subst hw
    obtain ⟨o_116, ho_116, hf⟩ := zbd hf
    refine zSl (isC := []) (isR := []) (isN := []) (wc := []) (wr := []) (wn := fun u => []) (rest := []) (As := [.long (x0 &&& (-9223372036854775808)), .long x6, .int r_113]) hF zn_A_44 (k_B_round κ X hX l H.size (x0 &&& (-9223372036854775808)) x6 r_113 o_116 ho_116) hX hXs hK hA hP hD hS ⟨by decide, by decide⟩ ⟨rfl, rfl, rfl, rfl, rfl, by decide⟩ ⟨rfl, fun _ => rfl, fun _ => rfl⟩ rfl hl.1 rfl (Nat.le_of_ble_eq_true rfl) ⟨Nat.zero_le _, Nat.zero_le _⟩ d_A_remainder_116 (fun r_116 u H locs hw hP hD hS => ?_)
    subst hw
    exact hret (r_116) () H locs ls _ d_A_remainder_119 hP hD hS (Option.some.inj hf)
  have b_79 : ∀ (x0 : Int64) (x2 : Int64) (x4 : Int64) (x6 : Int64) (x8 : Int32) (H : Heap) (locs : List Loc) (ls : Array Slot), f_A_remainder_79 x0 x2 x4 x6 x8 = some out → zP κ [] H → va_D A [] → va_S A s.heap H locs → lv_has ls 9 [(0, .long x0), (2, .long x2), (4, .long x4), (6, .long x6), (8, .int x8)] → W p l e (zR 3 72) s m args below meth c H locs 0 0 Q (F0 m 79 ls []) := by
    intro x0 x2 x4 x6 x8 H locs ls hf hP hD hS hl
    refine zrun_ind (P := fun z : (Int64) × (Int32) => ∀ (H : Heap) (locs : List Loc) (ls : Array Slot), zP κ [] H → va_D A [] → va_S A s.heap H locs → lv_has ls 9 [(0, .long x0), (2, .long x2), (4, .long x4), (6, .long z.1), (8, .int z.2)] → W p l e (zR 3 72) s m args below meth c H locs 0 0 Q (F0 m 79 ls [])) ?_ hf H locs ls hP hD hS hl
    clear hf hP hD hS hl H locs ls x6 x8
    intro z ih hne hexit_79 H locs ls hP hD hS hl
    obtain ⟨q_79, hf⟩ := zne hne
    have hback_79 := fun y (e : q_79 = .inl y) => ih y (e ▸ hf)
    replace hexit_79 := fun y (e : q_79 = .inr y) => hexit_79 y (e ▸ hf)
    clear ih hne
    obtain ⟨x6, x8⟩ := z
    replace hf : f_A_remainder_79_body x0 x2 x4 x6 x8 = some q_79 := hf
    replace hP : zP κ [] H := hP
    replace hD : va_D A [] := hD
    replace hl : lv_has ls 9 [(0, .long x0), (2, .long x2), (4, .long x4), (6, .long x6), (8, .int x8)] := hl
    unfold f_A_remainder_79_body at hf
    refine lv_iload hx hb d_A_remainder_79 (lv_at hl 4 rfl) ?_
    refine lv_if_le (tgt := 105) hx hb d_A_remainder_81 (by decide) (fun c_81 => ?_) (fun c_81 => ?_)
    · have hf := (zbr hf).1 c_81
      have hf := zex hf hexit_79
      exact b_105 x0 x2 x6 H locs ls hf hP hD hS (lv_sub hl [0, 1, 3] rfl)
    · have hf := (zbr hf).2 c_81
      refine lv_lload hx hb d_A_remainder_84 (lv_at hl 3 rfl) ?_
      refine lv_iload hx hb d_A_remainder_86 (lv_at hl 4 rfl) ?_
      refine lv_bipush (v := 10) hx hb d_A_remainder_88 (by decide) ?_
      refine va_mmin hx hb (hml.trans hl.1.symm) hown (hts _ zml_A_65) (hts _ zst_JM_min) (hts _ zin_JM) (hts _ zco_JM_min) (by decide) (Nat.le_of_ble_eq_true rfl) (Nat.zero_le _) (Nat.zero_le _) d_A_remainder_90 ?_
      refine lv_lshl (v := (jlshl x6 (if 10 < x8 then 10 else x8))) hx hb d_A_remainder_93 rfl ?_
      refine lv_lload hx hb d_A_remainder_94 (lv_at hl 2 rfl) ?_
      obtain ⟨g_96, hf⟩ := zgd hf
      refine lv_lrem hx hb d_A_remainder_96 g_96 ?_
      refine lv_lstore (lv' := [(6, .long (jlrem (jlshl x6 (if 10 < x8 then 10 else x8)) x4)), (0, .long x0), (2, .long x2), (4, .long x4), (8, .int x8)]) hx hb d_A_remainder_97 hl (by decide) rfl (fun ls hl => ?_)
      refine lv_iinc (v := (x8 + (-10))) (lv' := [(8, .int (x8 + (-10))), (6, .long (jlrem (jlshl x6 (if 10 < x8 then 10 else x8)) x4)), (0, .long x0), (2, .long x2), (4, .long x4)]) hx hb d_A_remainder_99 hl (k := 4) rfl rfl (by decide) rfl (fun ls hl => ?_)
      refine lv_goto (tgt := 79) hx hb d_A_remainder_102 (by decide) ?_
      exact hback_79 _ (Option.some.inj hf).symm H locs ls hP hD hS (lv_sub hl [2, 3, 4, 1, 0] rfl)
  unfold f_A_remainder at hf
  refine lv_lload_n hx hb d_A_remainder_0 rfl (lv_at hl 1 rfl) ?_
  obtain ⟨o_1, ho_1, hf⟩ := zbd hf
  refine zSl (isC := []) (isR := []) (isN := []) (wc := []) (wr := []) (wn := fun u => []) (rest := []) (As := [.long x2]) hF zn_A_37 (k_B_mantissa κ X hX l H.size x2 o_1 ho_1) hX hXs hK hA hP hD hS ⟨by decide, by decide⟩ ⟨rfl, rfl, rfl, rfl, rfl, by decide⟩ ⟨rfl, fun _ => rfl, fun _ => rfl⟩ rfl hl.1 rfl (Nat.le_of_ble_eq_true rfl) ⟨Nat.zero_le _, Nat.zero_le _⟩ d_A_remainder_1 (fun r_1 u H locs hw hP hD hS => ?_)
  subst hw
  refine lv_lstore (lv' := [(4, .long r_1), (0, .long x0), (2, .long x2)]) hx hb d_A_remainder_4 hl (by decide) rfl (fun ls hl => ?_)
  refine lv_lload_n hx hb d_A_remainder_6 rfl (lv_at hl 1 rfl) ?_
  obtain ⟨o_7, ho_7, hf⟩ := zbd hf
  refine zSi (isC := []) (isR := []) (isN := []) (wc := []) (wr := []) (wn := fun u => []) (rest := []) (As := [.long x0]) hF zn_A_9 (k_B_isNan κ X hX l H.size x0 o_7 ho_7) hX hXs hK hA hP hD hS ⟨by decide, by decide⟩ ⟨rfl, rfl, rfl, rfl, rfl, by decide⟩ ⟨rfl, fun _ => rfl, fun _ => rfl⟩ rfl hl.1 rfl (Nat.le_of_ble_eq_true rfl) ⟨Nat.zero_le _, Nat.zero_le _⟩ d_A_remainder_7 (fun r_7 u H locs hw hP hD hS => ?_)
  subst hw
  refine lv_if_ne (tgt := 34) hx hb d_A_remainder_10 (by decide) (fun c_10 => ?_) (fun c_10 => ?_)
  · have hf := (zbr hf).2 c_10
    refine lv_ldc2 (v := 9221120237041090560) hx hb hown (hts _ zkl_A_15) d_A_remainder_34 ?_
    exact hret ((9221120237041090560 : Int64)) () H locs ls _ d_A_remainder_37 hP hD hS (Option.some.inj hf)
  · have hf := (zbr hf).1 c_10
    refine lv_lload_n hx hb d_A_remainder_13 rfl (lv_at hl 2 rfl) ?_
    obtain ⟨o_14, ho_14, hf⟩ := zbd hf
    refine zSi (isC := []) (isR := []) (isN := []) (wc := []) (wr := []) (wn := fun u => []) (rest := []) (As := [.long x2]) hF zn_A_9 (k_B_isNan κ X hX l H.size x2 o_14 ho_14) hX hXs hK hA hP hD hS ⟨by decide, by decide⟩ ⟨rfl, rfl, rfl, rfl, rfl, by decide⟩ ⟨rfl, fun _ => rfl, fun _ => rfl⟩ rfl hl.1 rfl (Nat.le_of_ble_eq_true rfl) ⟨Nat.zero_le _, Nat.zero_le _⟩ d_A_remainder_14 (fun r_14 u H locs hw hP hD hS => ?_)
    subst hw
    refine lv_if_ne (tgt := 34) hx hb d_A_remainder_17 (by decide) (fun c_17 => ?_) (fun c_17 => ?_)
    · have hf := (zbr hf).2 c_17
      refine lv_ldc2 (v := 9221120237041090560) hx hb hown (hts _ zkl_A_15) d_A_remainder_34 ?_
      exact hret ((9221120237041090560 : Int64)) () H locs ls _ d_A_remainder_37 hP hD hS (Option.some.inj hf)
    · have hf := (zbr hf).1 c_17
      refine lv_lload_n hx hb d_A_remainder_20 rfl (lv_at hl 1 rfl) ?_
      obtain ⟨o_21, ho_21, hf⟩ := zbd hf
      refine zSi (isC := []) (isR := []) (isN := []) (wc := []) (wr := []) (wn := fun u => []) (rest := []) (As := [.long x0]) hF zn_A_17 (k_B_isInfinite κ X hX l H.size x0 o_21 ho_21) hX hXs hK hA hP hD hS ⟨by decide, by decide⟩ ⟨rfl, rfl, rfl, rfl, rfl, by decide⟩ ⟨rfl, fun _ => rfl, fun _ => rfl⟩ rfl hl.1 rfl (Nat.le_of_ble_eq_true rfl) ⟨Nat.zero_le _, Nat.zero_le _⟩ d_A_remainder_21 (fun r_21 u H locs hw hP hD hS => ?_)
      subst hw
      refine lv_if_ne (tgt := 34) hx hb d_A_remainder_24 (by decide) (fun c_24 => ?_) (fun c_24 => ?_)
      · have hf := (zbr hf).2 c_24
        refine lv_ldc2 (v := 9221120237041090560) hx hb hown (hts _ zkl_A_15) d_A_remainder_34 ?_
        exact hret ((9221120237041090560 : Int64)) () H locs ls _ d_A_remainder_37 hP hD hS (Option.some.inj hf)
      · have hf := (zbr hf).1 c_24
        refine lv_lload hx hb d_A_remainder_27 (lv_at hl 0 rfl) ?_
        refine lv_lconst (v := 0) hx hb d_A_remainder_29 (by decide) ?_
        refine W.lcmp hx hb d_A_remainder_30 ?_
        refine lv_if_ne (tgt := 38) hx hb d_A_remainder_31 (by decide) (fun c_31 => ?_) (fun c_31 => ?_)
        · have hf := (zbr hf).2 (zc_neq c_31)
          refine lv_lload_n hx hb d_A_remainder_38 rfl (lv_at hl 2 rfl) ?_
          obtain ⟨o_39, ho_39, hf⟩ := zbd hf
          refine zSi (isC := []) (isR := []) (isN := []) (wc := []) (wr := []) (wn := fun u => []) (rest := []) (As := [.long x2]) hF zn_A_17 (k_B_isInfinite κ X hX l H.size x2 o_39 ho_39) hX hXs hK hA hP hD hS ⟨by decide, by decide⟩ ⟨rfl, rfl, rfl, rfl, rfl, by decide⟩ ⟨rfl, fun _ => rfl, fun _ => rfl⟩ rfl hl.1 rfl (Nat.le_of_ble_eq_true rfl) ⟨Nat.zero_le _, Nat.zero_le _⟩ d_A_remainder_39 (fun r_39 u H locs hw hP hD hS => ?_)
          subst hw
          refine lv_if_ne (tgt := 57) hx hb d_A_remainder_42 (by decide) (fun c_42 => ?_) (fun c_42 => ?_)
          · have hf := (zbr hf).2 c_42
            refine lv_lload_n hx hb d_A_remainder_57 rfl (lv_at hl 1 rfl) ?_
            exact hret (x0) () H locs ls _ d_A_remainder_58 hP hD hS (Option.some.inj hf)
          · have hf := (zbr hf).1 c_42
            refine lv_lload_n hx hb d_A_remainder_45 rfl (lv_at hl 1 rfl) ?_
            obtain ⟨o_46, ho_46, hf⟩ := zbd hf
            refine zSl (isC := []) (isR := []) (isN := []) (wc := []) (wr := []) (wn := fun u => []) (rest := []) (As := [.long x0]) hF zn_A_20 (k_B_magnitude κ X hX l H.size x0 o_46 ho_46) hX hXs hK hA hP hD hS ⟨by decide, by decide⟩ ⟨rfl, rfl, rfl, rfl, rfl, by decide⟩ ⟨rfl, fun _ => rfl, fun _ => rfl⟩ rfl hl.1 rfl (Nat.le_of_ble_eq_true rfl) ⟨Nat.zero_le _, Nat.zero_le _⟩ d_A_remainder_46 (fun r_46 u H locs hw hP hD hS => ?_)
            subst hw
            refine lv_lload_n hx hb d_A_remainder_49 rfl (lv_at hl 2 rfl) ?_
            obtain ⟨o_50, ho_50, hf⟩ := zbd hf
            refine zSl (isC := []) (isR := []) (isN := []) (wc := []) (wr := []) (wn := fun u => []) (rest := [.long r_46]) (As := [.long x2]) hF zn_A_20 (k_B_magnitude κ X hX l H.size x2 o_50 ho_50) hX hXs hK hA hP hD hS ⟨by decide, by decide⟩ ⟨rfl, rfl, rfl, rfl, rfl, by decide⟩ ⟨rfl, fun _ => rfl, fun _ => rfl⟩ rfl hl.1 rfl (Nat.le_of_ble_eq_true rfl) ⟨Nat.zero_le _, Nat.zero_le _⟩ d_A_remainder_50 (fun r_50 u H locs hw hP hD hS => ?_)
            subst hw
            refine W.lcmp hx hb d_A_remainder_53 ?_
            refine lv_if_ge (tgt := 59) hx hb d_A_remainder_54 (by decide) (fun c_54 => ?_) (fun c_54 => ?_)
            · have hf := (zbr hf).2 (zc_ge.mp c_54)
              refine lv_lload_n hx hb d_A_remainder_59 rfl (lv_at hl 1 rfl) ?_
              obtain ⟨o_60, ho_60, hf⟩ := zbd hf
              refine zSl (isC := []) (isR := []) (isN := []) (wc := []) (wr := []) (wn := fun u => []) (rest := []) (As := [.long x0]) hF zn_A_37 (k_B_mantissa κ X hX l H.size x0 o_60 ho_60) hX hXs hK hA hP hD hS ⟨by decide, by decide⟩ ⟨rfl, rfl, rfl, rfl, rfl, by decide⟩ ⟨rfl, fun _ => rfl, fun _ => rfl⟩ rfl hl.1 rfl (Nat.le_of_ble_eq_true rfl) ⟨Nat.zero_le _, Nat.zero_le _⟩ d_A_remainder_60 (fun r_60 u H locs hw hP hD hS => ?_)
              subst hw
              refine lv_lload hx hb d_A_remainder_63 (lv_at hl 0 rfl) ?_
              obtain ⟨g_65, hf⟩ := zgd hf
              refine lv_lrem hx hb d_A_remainder_65 g_65 ?_
              refine lv_lstore (lv' := [(6, .long (jlrem r_60 r_1)), (4, .long r_1), (0, .long x0), (2, .long x2)]) hx hb d_A_remainder_66 hl (by decide) rfl (fun ls hl => ?_)
              refine lv_lload_n hx hb d_A_remainder_68 rfl (lv_at hl 2 rfl) ?_
              obtain ⟨o_69, ho_69, hf⟩ := zbd hf
              refine zSi (isC := []) (isR := []) (isN := []) (wc := []) (wr := []) (wn := fun u => []) (rest := []) (As := [.long x0]) hF zn_A_33 (k_B_exponent κ X hX l H.size x0 o_69 ho_69) hX hXs hK hA hP hD hS ⟨by decide, by decide⟩ ⟨rfl, rfl, rfl, rfl, rfl, by decide⟩ ⟨rfl, fun _ => rfl, fun _ => rfl⟩ rfl hl.1 rfl (Nat.le_of_ble_eq_true rfl) ⟨Nat.zero_le _, Nat.zero_le _⟩ d_A_remainder_69 (fun r_69 u H locs hw hP hD hS => ?_)
              subst hw
              refine lv_lload_n hx hb d_A_remainder_72 rfl (lv_at hl 3 rfl) ?_
              obtain ⟨o_73, ho_73, hf⟩ := zbd hf
              refine zSi (isC := []) (isR := []) (isN := []) (wc := []) (wr := []) (wn := fun u => []) (rest := [.int r_69]) (As := [.long x2]) hF zn_A_33 (k_B_exponent κ X hX l H.size x2 o_73 ho_73) hX hXs hK hA hP hD hS ⟨by decide, by decide⟩ ⟨rfl, rfl, rfl, rfl, rfl, by decide⟩ ⟨rfl, fun _ => rfl, fun _ => rfl⟩ rfl hl.1 rfl (Nat.le_of_ble_eq_true rfl) ⟨Nat.zero_le _, Nat.zero_le _⟩ d_A_remainder_73 (fun r_73 u H locs hw hP hD hS => ?_)
              subst hw
              refine lv_isub hx hb d_A_remainder_76 ?_
              refine lv_istore (lv' := [(8, .int (r_69 - r_73)), (6, .long (jlrem r_60 r_1)), (4, .long r_1), (0, .long x0), (2, .long x2)]) hx hb d_A_remainder_77 hl (by decide) rfl (fun ls hl => ?_)
              exact b_79 x0 x2 r_1 (jlrem r_60 r_1) (r_69 - r_73) H locs ls hf hP hD hS (lv_sub hl [3, 4, 2, 1, 0] rfl)
            · have hf := (zbr hf).1 (zc_nge c_54)
              refine lv_lload_n hx hb d_A_remainder_57 rfl (lv_at hl 1 rfl) ?_
              exact hret (x0) () H locs ls _ d_A_remainder_58 hP hD hS (Option.some.inj hf)
        · have hf := (zbr hf).1 (zc_eq.mp c_31)
          refine lv_ldc2 (v := 9221120237041090560) hx hb hown (hts _ zkl_A_15) d_A_remainder_34 ?_
          exact hret ((9221120237041090560 : Int64)) () H locs ls _ d_A_remainder_37 hP hD hS (Option.some.inj hf)
theorem d_A_rootOfFinite_0 : decode c_A_rootOfFinite 0 = .ok (.lload_n 0, 1) := by decide +kernel
theorem d_A_rootOfFinite_1 : decode c_A_rootOfFinite 1 = .ok (.invokestatic 37, 3) := by decide +kernel
theorem d_A_rootOfFinite_4 : decode c_A_rootOfFinite 4 = .ok (.invokestatic 57, 3) := by decide +kernel
theorem d_A_rootOfFinite_7 : decode c_A_rootOfFinite 7 = .ok (.istore_n 2, 1) := by decide +kernel
theorem d_A_rootOfFinite_8 : decode c_A_rootOfFinite 8 = .ok (.lload_n 0, 1) := by decide +kernel
theorem d_A_rootOfFinite_9 : decode c_A_rootOfFinite 9 = .ok (.invokestatic 33, 3) := by decide +kernel
theorem d_A_rootOfFinite_12 : decode c_A_rootOfFinite 12 = .ok (.iload_n 2, 1) := by decide +kernel
theorem d_A_rootOfFinite_13 : decode c_A_rootOfFinite 13 = .ok (.isub, 1) := by decide +kernel
theorem d_A_rootOfFinite_14 : decode c_A_rootOfFinite 14 = .ok (.istore_n 3, 1) := by decide +kernel
theorem d_A_rootOfFinite_15 : decode c_A_rootOfFinite 15 = .ok (.iload_n 3, 1) := by decide +kernel
theorem d_A_rootOfFinite_16 : decode c_A_rootOfFinite 16 = .ok (.iconst 1, 1) := by decide +kernel
theorem d_A_rootOfFinite_17 : decode c_A_rootOfFinite 17 = .ok (.iand, 1) := by decide +kernel
theorem d_A_rootOfFinite_18 : decode c_A_rootOfFinite 18 = .ok (.istore 4, 2) := by decide +kernel
theorem d_A_rootOfFinite_20 : decode c_A_rootOfFinite 20 = .ok (.lload_n 0, 1) := by decide +kernel
theorem d_A_rootOfFinite_21 : decode c_A_rootOfFinite 21 = .ok (.invokestatic 37, 3) := by decide +kernel
theorem d_A_rootOfFinite_24 : decode c_A_rootOfFinite 24 = .ok (.iload_n 2, 1) := by decide +kernel
theorem d_A_rootOfFinite_25 : decode c_A_rootOfFinite 25 = .ok (.iload 4, 2) := by decide +kernel
theorem d_A_rootOfFinite_27 : decode c_A_rootOfFinite 27 = .ok (.iadd, 1) := by decide +kernel
theorem d_A_rootOfFinite_28 : decode c_A_rootOfFinite 28 = .ok (.lshl, 1) := by decide +kernel
theorem d_A_rootOfFinite_29 : decode c_A_rootOfFinite 29 = .ok (.lstore 5, 2) := by decide +kernel
theorem d_A_rootOfFinite_31 : decode c_A_rootOfFinite 31 = .ok (.lconst 0, 1) := by decide +kernel
theorem d_A_rootOfFinite_32 : decode c_A_rootOfFinite 32 = .ok (.lstore 7, 2) := by decide +kernel
theorem d_A_rootOfFinite_34 : decode c_A_rootOfFinite 34 = .ok (.lconst 0, 1) := by decide +kernel
theorem d_A_rootOfFinite_35 : decode c_A_rootOfFinite 35 = .ok (.lstore 9, 2) := by decide +kernel
theorem d_A_rootOfFinite_37 : decode c_A_rootOfFinite 37 = .ok (.bipush 26, 2) := by decide +kernel
theorem d_A_rootOfFinite_39 : decode c_A_rootOfFinite 39 = .ok (.istore 11, 2) := by decide +kernel
theorem d_A_rootOfFinite_41 : decode c_A_rootOfFinite 41 = .ok (.iload 11, 2) := by decide +kernel
theorem d_A_rootOfFinite_43 : decode c_A_rootOfFinite 43 = .ok (.bipush (-30), 2) := by decide +kernel
theorem d_A_rootOfFinite_45 : decode c_A_rootOfFinite 45 = .ok (.if_icmp .lt 71, 3) := by decide +kernel
theorem d_A_rootOfFinite_48 : decode c_A_rootOfFinite 48 = .ok (.lload 9, 2) := by decide +kernel
theorem d_A_rootOfFinite_50 : decode c_A_rootOfFinite 50 = .ok (.iconst 2, 1) := by decide +kernel
theorem d_A_rootOfFinite_51 : decode c_A_rootOfFinite 51 = .ok (.lshl, 1) := by decide +kernel
theorem d_A_rootOfFinite_52 : decode c_A_rootOfFinite 52 = .ok (.iload 11, 2) := by decide +kernel
theorem d_A_rootOfFinite_54 : decode c_A_rootOfFinite 54 = .ok (.ifCond .lt 17, 3) := by decide +kernel
theorem d_A_rootOfFinite_57 : decode c_A_rootOfFinite 57 = .ok (.lload 5, 2) := by decide +kernel
theorem d_A_rootOfFinite_59 : decode c_A_rootOfFinite 59 = .ok (.iconst 2, 1) := by decide +kernel
theorem d_A_rootOfFinite_60 : decode c_A_rootOfFinite 60 = .ok (.iload 11, 2) := by decide +kernel
theorem d_A_rootOfFinite_62 : decode c_A_rootOfFinite 62 = .ok (.imul, 1) := by decide +kernel
theorem d_A_rootOfFinite_63 : decode c_A_rootOfFinite 63 = .ok (.lushr, 1) := by decide +kernel
theorem d_A_rootOfFinite_64 : decode c_A_rootOfFinite 64 = .ok (.ldc2_w 74, 3) := by decide +kernel
theorem d_A_rootOfFinite_67 : decode c_A_rootOfFinite 67 = .ok (.land, 1) := by decide +kernel
theorem d_A_rootOfFinite_68 : decode c_A_rootOfFinite 68 = .ok (.goto 4, 3) := by decide +kernel
theorem d_A_rootOfFinite_71 : decode c_A_rootOfFinite 71 = .ok (.lconst 0, 1) := by decide +kernel
theorem d_A_rootOfFinite_72 : decode c_A_rootOfFinite 72 = .ok (.lor, 1) := by decide +kernel
theorem d_A_rootOfFinite_73 : decode c_A_rootOfFinite 73 = .ok (.lstore 9, 2) := by decide +kernel
theorem d_A_rootOfFinite_75 : decode c_A_rootOfFinite 75 = .ok (.lload 7, 2) := by decide +kernel
theorem d_A_rootOfFinite_77 : decode c_A_rootOfFinite 77 = .ok (.iconst 2, 1) := by decide +kernel
theorem d_A_rootOfFinite_78 : decode c_A_rootOfFinite 78 = .ok (.lshl, 1) := by decide +kernel
theorem d_A_rootOfFinite_79 : decode c_A_rootOfFinite 79 = .ok (.lconst 1, 1) := by decide +kernel
theorem d_A_rootOfFinite_80 : decode c_A_rootOfFinite 80 = .ok (.lor, 1) := by decide +kernel
theorem d_A_rootOfFinite_81 : decode c_A_rootOfFinite 81 = .ok (.lstore 12, 2) := by decide +kernel
theorem d_A_rootOfFinite_83 : decode c_A_rootOfFinite 83 = .ok (.lload 7, 2) := by decide +kernel
theorem d_A_rootOfFinite_85 : decode c_A_rootOfFinite 85 = .ok (.iconst 1, 1) := by decide +kernel
theorem d_A_rootOfFinite_86 : decode c_A_rootOfFinite 86 = .ok (.lshl, 1) := by decide +kernel
theorem d_A_rootOfFinite_87 : decode c_A_rootOfFinite 87 = .ok (.lstore 7, 2) := by decide +kernel
theorem d_A_rootOfFinite_89 : decode c_A_rootOfFinite 89 = .ok (.lload 9, 2) := by decide +kernel
theorem d_A_rootOfFinite_91 : decode c_A_rootOfFinite 91 = .ok (.lload 12, 2) := by decide +kernel
theorem d_A_rootOfFinite_93 : decode c_A_rootOfFinite 93 = .ok (.lcmp, 1) := by decide +kernel
theorem d_A_rootOfFinite_94 : decode c_A_rootOfFinite 94 = .ok (.ifCond .lt 16, 3) := by decide +kernel
theorem d_A_rootOfFinite_97 : decode c_A_rootOfFinite 97 = .ok (.lload 9, 2) := by decide +kernel
theorem d_A_rootOfFinite_99 : decode c_A_rootOfFinite 99 = .ok (.lload 12, 2) := by decide +kernel
theorem d_A_rootOfFinite_101 : decode c_A_rootOfFinite 101 = .ok (.lsub, 1) := by decide +kernel
theorem d_A_rootOfFinite_102 : decode c_A_rootOfFinite 102 = .ok (.lstore 9, 2) := by decide +kernel
theorem d_A_rootOfFinite_104 : decode c_A_rootOfFinite 104 = .ok (.lload 7, 2) := by decide +kernel
theorem d_A_rootOfFinite_106 : decode c_A_rootOfFinite 106 = .ok (.lconst 1, 1) := by decide +kernel
theorem d_A_rootOfFinite_107 : decode c_A_rootOfFinite 107 = .ok (.lor, 1) := by decide +kernel
theorem d_A_rootOfFinite_108 : decode c_A_rootOfFinite 108 = .ok (.lstore 7, 2) := by decide +kernel
theorem d_A_rootOfFinite_110 : decode c_A_rootOfFinite 110 = .ok (.iinc 11 (-1), 3) := by decide +kernel
theorem d_A_rootOfFinite_113 : decode c_A_rootOfFinite 113 = .ok (.goto (-72), 3) := by decide +kernel
theorem d_A_rootOfFinite_116 : decode c_A_rootOfFinite 116 = .ok (.lconst 0, 1) := by decide +kernel
theorem d_A_rootOfFinite_117 : decode c_A_rootOfFinite 117 = .ok (.lload 9, 2) := by decide +kernel
theorem d_A_rootOfFinite_119 : decode c_A_rootOfFinite 119 = .ok (.lconst 0, 1) := by decide +kernel
theorem d_A_rootOfFinite_120 : decode c_A_rootOfFinite 120 = .ok (.lcmp, 1) := by decide +kernel
theorem d_A_rootOfFinite_121 : decode c_A_rootOfFinite 121 = .ok (.ifCond .ne 10, 3) := by decide +kernel
theorem d_A_rootOfFinite_124 : decode c_A_rootOfFinite 124 = .ok (.lload 7, 2) := by decide +kernel
theorem d_A_rootOfFinite_126 : decode c_A_rootOfFinite 126 = .ok (.iconst 1, 1) := by decide +kernel
theorem d_A_rootOfFinite_127 : decode c_A_rootOfFinite 127 = .ok (.lshl, 1) := by decide +kernel
theorem d_A_rootOfFinite_128 : decode c_A_rootOfFinite 128 = .ok (.goto 9, 3) := by decide +kernel
theorem d_A_rootOfFinite_131 : decode c_A_rootOfFinite 131 = .ok (.lload 7, 2) := by decide +kernel
theorem d_A_rootOfFinite_133 : decode c_A_rootOfFinite 133 = .ok (.iconst 1, 1) := by decide +kernel
theorem d_A_rootOfFinite_134 : decode c_A_rootOfFinite 134 = .ok (.lshl, 1) := by decide +kernel
theorem d_A_rootOfFinite_135 : decode c_A_rootOfFinite 135 = .ok (.lconst 1, 1) := by decide +kernel
theorem d_A_rootOfFinite_136 : decode c_A_rootOfFinite 136 = .ok (.lor, 1) := by decide +kernel
theorem d_A_rootOfFinite_137 : decode c_A_rootOfFinite 137 = .ok (.iload_n 3, 1) := by decide +kernel
theorem d_A_rootOfFinite_138 : decode c_A_rootOfFinite 138 = .ok (.iload 4, 2) := by decide +kernel
theorem d_A_rootOfFinite_140 : decode c_A_rootOfFinite 140 = .ok (.isub, 1) := by decide +kernel
theorem d_A_rootOfFinite_141 : decode c_A_rootOfFinite 141 = .ok (.iconst 1, 1) := by decide +kernel
theorem d_A_rootOfFinite_142 : decode c_A_rootOfFinite 142 = .ok (.ishr, 1) := by decide +kernel
theorem d_A_rootOfFinite_143 : decode c_A_rootOfFinite 143 = .ok (.bipush 31, 2) := by decide +kernel
theorem d_A_rootOfFinite_145 : decode c_A_rootOfFinite 145 = .ok (.isub, 1) := by decide +kernel
theorem d_A_rootOfFinite_146 : decode c_A_rootOfFinite 146 = .ok (.invokestatic 44, 3) := by decide +kernel
theorem d_A_rootOfFinite_149 : decode c_A_rootOfFinite 149 = .ok (.lreturn, 1) := by decide +kernel
set_option maxHeartbeats 4000000 in
set_option maxRecDepth 100000 in
theorem k_A_rootOfFinite (κ : zC) (X : zXT) (hX : zX κ X) (l : Launch) (sz : Nat) (x0 : Int64) (out : Int64) (hf : f_A_rootOfFinite x0 = some out) : zMet κ X l y_A_rootOfFinite c_A_rootOfFinite 14 (some .long) 3 72 [.long x0] sz [] (zQl κ (fun (r : Int64) (_ : Unit) => r = out) (fun u => [])) := by
  refine zMet.ofL (by decide +kernel) (Nat.le_of_ble_eq_true rfl) ?_
  intro p e s m args below meth c ls A Q hF hK hP hD hA hXs hS hl hret
  obtain ⟨hx, hb, hml, hown, hts⟩ := id hF
  obtain ⟨H, hH⟩ : ∃ H, H = s.heap := ⟨_, rfl⟩
  obtain ⟨locs, hlo⟩ : ∃ z : List Loc, z = [] := ⟨_, rfl⟩
  replace hP : zP κ [] H := by rw [hH]; exact hP
  replace hS : va_S A s.heap H locs := by rw [hH, hlo]; exact hS
  suffices hgo : W p l e (zR 3 72) s m args below meth c H locs 0 0 Q (F0 m 0 ls []) by rw [hH, hlo] at hgo; exact hgo
  clear hH hlo
  replace hl : lv_has ls 14 [(0, .long x0)] := hl
  have b_137 : ∀ (x3 : Int32) (x4 : Int32) (s0 : Int64) (s1 : Int64) (H : Heap) (locs : List Loc) (ls : Array Slot), f_A_rootOfFinite_137 x3 x4 s0 s1 = some out → zP κ [] H → va_D A [] → va_S A s.heap H locs → lv_has ls 14 [(3, .int x3), (4, .int x4)] → W p l e (zR 3 72) s m args below meth c H locs 0 0 Q (F0 m 137 ls [.long s1, .long s0]) := by
    intro x3 x4 s0 s1 H locs ls hf hP hD hS hl
    unfold f_A_rootOfFinite_137 at hf
    refine lv_iload_n hx hb d_A_rootOfFinite_137 rfl (lv_at hl 0 rfl) ?_
    refine lv_iload hx hb d_A_rootOfFinite_138 (lv_at hl 1 rfl) ?_
    refine lv_isub hx hb d_A_rootOfFinite_140 ?_
    refine lv_iconst (v := 1) hx hb d_A_rootOfFinite_141 (by decide) ?_
    refine lv_ishr hx hb d_A_rootOfFinite_142 ?_
    refine lv_bipush (v := 31) hx hb d_A_rootOfFinite_143 (by decide) ?_
    refine lv_isub hx hb d_A_rootOfFinite_145 ?_
    obtain ⟨o_146, ho_146, hf⟩ := zbd hf
    refine zSl (isC := []) (isR := []) (isN := []) (wc := []) (wr := []) (wn := fun u => []) (rest := []) (As := [.long s0, .long s1, .int ((jshr (x3 - x4) 1) - 31)]) hF zn_A_44 (k_B_round κ X hX l H.size s0 s1 ((jshr (x3 - x4) 1) - 31) o_146 ho_146) hX hXs hK hA hP hD hS ⟨by decide, by decide⟩ ⟨rfl, rfl, rfl, rfl, rfl, by decide⟩ ⟨rfl, fun _ => rfl, fun _ => rfl⟩ rfl hl.1 rfl (Nat.le_of_ble_eq_true rfl) ⟨Nat.zero_le _, Nat.zero_le _⟩ d_A_rootOfFinite_146 (fun r_146 u H locs hw hP hD hS => ?_)
    subst hw
    exact hret (r_146) () H locs ls _ d_A_rootOfFinite_149 hP hD hS (Option.some.inj hf)
  have b_116 : ∀ (x3 : Int32) (x4 : Int32) (x7 : Int64) (x9 : Int64) (H : Heap) (locs : List Loc) (ls : Array Slot), f_A_rootOfFinite_116 x3 x4 x7 x9 = some out → zP κ [] H → va_D A [] → va_S A s.heap H locs → lv_has ls 14 [(3, .int x3), (4, .int x4), (7, .long x7), (9, .long x9)] → W p l e (zR 3 72) s m args below meth c H locs 0 0 Q (F0 m 116 ls []) := by
    intro x3 x4 x7 x9 H locs ls hf hP hD hS hl
    unfold f_A_rootOfFinite_116 at hf
    refine lv_lconst (v := 0) hx hb d_A_rootOfFinite_116 (by decide) ?_
    refine lv_lload hx hb d_A_rootOfFinite_117 (lv_at hl 3 rfl) ?_
    refine lv_lconst (v := 0) hx hb d_A_rootOfFinite_119 (by decide) ?_
    refine W.lcmp hx hb d_A_rootOfFinite_120 ?_
    refine lv_if_ne (tgt := 131) hx hb d_A_rootOfFinite_121 (by decide) (fun c_121 => ?_) (fun c_121 => ?_)
    · have hf := (zbr hf).2 (zc_neq c_121)
      refine lv_lload hx hb d_A_rootOfFinite_131 (lv_at hl 2 rfl) ?_
      refine lv_iconst (v := 1) hx hb d_A_rootOfFinite_133 (by decide) ?_
      refine lv_lshl (v := (jlshl x7 1)) hx hb d_A_rootOfFinite_134 rfl ?_
      refine lv_lconst (v := 1) hx hb d_A_rootOfFinite_135 (by decide) ?_
      refine lv_lor hx hb d_A_rootOfFinite_136 ?_
      exact b_137 x3 x4 0 ((jlshl x7 1) ||| 1) H locs ls hf hP hD hS (lv_sub hl [0, 1] rfl)
    · have hf := (zbr hf).1 (zc_eq.mp c_121)
      refine lv_lload hx hb d_A_rootOfFinite_124 (lv_at hl 2 rfl) ?_
      refine lv_iconst (v := 1) hx hb d_A_rootOfFinite_126 (by decide) ?_
      refine lv_lshl (v := (jlshl x7 1)) hx hb d_A_rootOfFinite_127 rfl ?_
      refine lv_goto (tgt := 137) hx hb d_A_rootOfFinite_128 (by decide) ?_
      exact b_137 x3 x4 0 (jlshl x7 1) H locs ls hf hP hD hS (lv_sub hl [0, 1] rfl)
  have b_41 : ∀ (x3 : Int32) (x4 : Int32) (x5 : Int64) (x7 : Int64) (x9 : Int64) (x11 : Int32) (H : Heap) (locs : List Loc) (ls : Array Slot), f_A_rootOfFinite_41 x3 x4 x5 x7 x9 x11 = some out → zP κ [] H → va_D A [] → va_S A s.heap H locs → lv_has ls 14 [(3, .int x3), (4, .int x4), (5, .long x5), (7, .long x7), (9, .long x9), (11, .int x11)] → W p l e (zR 3 72) s m args below meth c H locs 0 0 Q (F0 m 41 ls []) := by
    intro x3 x4 x5 x7 x9 x11 H locs ls hf hP hD hS hl
    refine zrun_ind (P := fun z : (Int64) × (Int64) × (Int32) => ∀ (H : Heap) (locs : List Loc) (ls : Array Slot), zP κ [] H → va_D A [] → va_S A s.heap H locs → lv_has ls 14 [(3, .int x3), (4, .int x4), (5, .long x5), (7, .long z.1), (9, .long z.2.1), (11, .int z.2.2)] → W p l e (zR 3 72) s m args below meth c H locs 0 0 Q (F0 m 41 ls [])) ?_ hf H locs ls hP hD hS hl
    clear hf hP hD hS hl H locs ls x7 x9 x11
    intro z ih hne hexit_41 H locs ls hP hD hS hl
    obtain ⟨q_41, hf⟩ := zne hne
    have hback_41 := fun y (e : q_41 = .inl y) => ih y (e ▸ hf)
    replace hexit_41 := fun y (e : q_41 = .inr y) => hexit_41 y (e ▸ hf)
    clear ih hne
    obtain ⟨x7, x9, x11⟩ := z
    replace hf : f_A_rootOfFinite_41_body x3 x4 x5 x7 x9 x11 = some q_41 := hf
    replace hP : zP κ [] H := hP
    replace hD : va_D A [] := hD
    replace hl : lv_has ls 14 [(3, .int x3), (4, .int x4), (5, .long x5), (7, .long x7), (9, .long x9), (11, .int x11)] := hl
    have b_110 : ∀ (x7 : Int64) (x9 : Int64) (x11 : Int32) (H : Heap) (locs : List Loc) (ls : Array Slot), f_A_rootOfFinite_110 x3 x4 x5 x7 x9 x11 = some q_41 → zP κ [] H → va_D A [] → va_S A s.heap H locs → lv_has ls 14 [(3, .int x3), (4, .int x4), (5, .long x5), (7, .long x7), (9, .long x9), (11, .int x11)] → W p l e (zR 3 72) s m args below meth c H locs 0 0 Q (F0 m 110 ls []) := by
      intro x7 x9 x11 H locs ls hf hP hD hS hl
      unfold f_A_rootOfFinite_110 at hf
      refine lv_iinc (v := (x11 + (-1))) (lv' := [(11, .int (x11 + (-1))), (3, .int x3), (4, .int x4), (5, .long x5), (7, .long x7), (9, .long x9)]) hx hb d_A_rootOfFinite_110 hl (k := 5) rfl rfl (by decide) rfl (fun ls hl => ?_)
      refine lv_goto (tgt := 41) hx hb d_A_rootOfFinite_113 (by decide) ?_
      exact hback_41 _ (Option.some.inj hf).symm H locs ls hP hD hS (lv_sub hl [1, 2, 3, 4, 5, 0] rfl)
    have b_72 : ∀ (x7 : Int64) (x11 : Int32) (s0 : Int64) (s1 : Int64) (H : Heap) (locs : List Loc) (ls : Array Slot), f_A_rootOfFinite_72 x3 x4 x5 x7 x11 s0 s1 = some q_41 → zP κ [] H → va_D A [] → va_S A s.heap H locs → lv_has ls 14 [(3, .int x3), (4, .int x4), (5, .long x5), (7, .long x7), (11, .int x11)] → W p l e (zR 3 72) s m args below meth c H locs 0 0 Q (F0 m 72 ls [.long s1, .long s0]) := by
      intro x7 x11 s0 s1 H locs ls hf hP hD hS hl
      unfold f_A_rootOfFinite_72 at hf
      refine lv_lor hx hb d_A_rootOfFinite_72 ?_
      refine lv_lstore (lv' := [(9, .long (s0 ||| s1)), (3, .int x3), (4, .int x4), (5, .long x5), (7, .long x7), (11, .int x11)]) hx hb d_A_rootOfFinite_73 hl (by decide) rfl (fun ls hl => ?_)
      refine lv_lload hx hb d_A_rootOfFinite_75 (lv_at hl 4 rfl) ?_
      refine lv_iconst (v := 2) hx hb d_A_rootOfFinite_77 (by decide) ?_
      refine lv_lshl (v := (jlshl x7 2)) hx hb d_A_rootOfFinite_78 rfl ?_
      refine lv_lconst (v := 1) hx hb d_A_rootOfFinite_79 (by decide) ?_
      refine lv_lor hx hb d_A_rootOfFinite_80 ?_
      refine lv_lstore (lv' := [(12, .long ((jlshl x7 2) ||| 1)), (9, .long (s0 ||| s1)), (3, .int x3), (4, .int x4), (5, .long x5), (7, .long x7), (11, .int x11)]) hx hb d_A_rootOfFinite_81 hl (by decide) rfl (fun ls hl => ?_)
      refine lv_lload hx hb d_A_rootOfFinite_83 (lv_at hl 5 rfl) ?_
      refine lv_iconst (v := 1) hx hb d_A_rootOfFinite_85 (by decide) ?_
      refine lv_lshl (v := (jlshl x7 1)) hx hb d_A_rootOfFinite_86 rfl ?_
      refine lv_lstore (lv' := [(7, .long (jlshl x7 1)), (12, .long ((jlshl x7 2) ||| 1)), (9, .long (s0 ||| s1)), (3, .int x3), (4, .int x4), (5, .long x5), (11, .int x11)]) hx hb d_A_rootOfFinite_87 hl (by decide) rfl (fun ls hl => ?_)
      refine lv_lload hx hb d_A_rootOfFinite_89 (lv_at hl 2 rfl) ?_
      refine lv_lload hx hb d_A_rootOfFinite_91 (lv_at hl 1 rfl) ?_
      refine W.lcmp hx hb d_A_rootOfFinite_93 ?_
      refine lv_if_lt (tgt := 110) hx hb d_A_rootOfFinite_94 (by decide) (fun c_94 => ?_) (fun c_94 => ?_)
      · have hf := (zbr hf).1 (zc_lt.mp c_94)
        exact b_110 (jlshl x7 1) (s0 ||| s1) x11 H locs ls hf hP hD hS (lv_sub hl [3, 4, 5, 0, 2, 6] rfl)
      · have hf := (zbr hf).2 (zc_nlt c_94)
        refine lv_lload hx hb d_A_rootOfFinite_97 (lv_at hl 2 rfl) ?_
        refine lv_lload hx hb d_A_rootOfFinite_99 (lv_at hl 1 rfl) ?_
        refine lv_lsub hx hb d_A_rootOfFinite_101 ?_
        refine lv_lstore (lv' := [(9, .long ((s0 ||| s1) - ((jlshl x7 2) ||| 1))), (7, .long (jlshl x7 1)), (12, .long ((jlshl x7 2) ||| 1)), (3, .int x3), (4, .int x4), (5, .long x5), (11, .int x11)]) hx hb d_A_rootOfFinite_102 hl (by decide) rfl (fun ls hl => ?_)
        refine lv_lload hx hb d_A_rootOfFinite_104 (lv_at hl 1 rfl) ?_
        refine lv_lconst (v := 1) hx hb d_A_rootOfFinite_106 (by decide) ?_
        refine lv_lor hx hb d_A_rootOfFinite_107 ?_
        refine lv_lstore (lv' := [(7, .long ((jlshl x7 1) ||| 1)), (9, .long ((s0 ||| s1) - ((jlshl x7 2) ||| 1))), (12, .long ((jlshl x7 2) ||| 1)), (3, .int x3), (4, .int x4), (5, .long x5), (11, .int x11)]) hx hb d_A_rootOfFinite_108 hl (by decide) rfl (fun ls hl => ?_)
        exact b_110 ((jlshl x7 1) ||| 1) ((s0 ||| s1) - ((jlshl x7 2) ||| 1)) x11 H locs ls hf hP hD hS (lv_sub hl [3, 4, 5, 0, 1, 6] rfl)
    unfold f_A_rootOfFinite_41_body at hf
    refine lv_iload hx hb d_A_rootOfFinite_41 (lv_at hl 5 rfl) ?_
    refine lv_bipush (v := (-30)) hx hb d_A_rootOfFinite_43 (by decide) ?_
    refine lv_icmp_lt (tgt := 116) hx hb d_A_rootOfFinite_45 (by decide) (fun c_45 => ?_) (fun c_45 => ?_)
    · have hf := (zbr hf).1 c_45
      have hf := zex hf hexit_41
      exact b_116 x3 x4 x7 x9 H locs ls hf hP hD hS (lv_sub hl [0, 1, 3, 4] rfl)
    · have hf := (zbr hf).2 c_45
      refine lv_lload hx hb d_A_rootOfFinite_48 (lv_at hl 4 rfl) ?_
      refine lv_iconst (v := 2) hx hb d_A_rootOfFinite_50 (by decide) ?_
      refine lv_lshl (v := (jlshl x9 2)) hx hb d_A_rootOfFinite_51 rfl ?_
      refine lv_iload hx hb d_A_rootOfFinite_52 (lv_at hl 5 rfl) ?_
      refine lv_if_lt (tgt := 71) hx hb d_A_rootOfFinite_54 (by decide) (fun c_54 => ?_) (fun c_54 => ?_)
      · have hf := (zbr hf).1 c_54
        refine lv_lconst (v := 0) hx hb d_A_rootOfFinite_71 (by decide) ?_
        exact b_72 x7 x11 (jlshl x9 2) 0 H locs ls hf hP hD hS (lv_sub hl [0, 1, 2, 3, 5] rfl)
      · have hf := (zbr hf).2 c_54
        refine lv_lload hx hb d_A_rootOfFinite_57 (lv_at hl 2 rfl) ?_
        refine lv_iconst (v := 2) hx hb d_A_rootOfFinite_59 (by decide) ?_
        refine lv_iload hx hb d_A_rootOfFinite_60 (lv_at hl 5 rfl) ?_
        refine lv_imul hx hb d_A_rootOfFinite_62 ?_
        refine lv_lushr (v := (jlushr x5 (2 * x11))) hx hb d_A_rootOfFinite_63 rfl ?_
        refine lv_ldc2 (v := 3) hx hb hown (hts _ zkl_A_74) d_A_rootOfFinite_64 ?_
        refine lv_land hx hb d_A_rootOfFinite_67 ?_
        refine lv_goto (tgt := 72) hx hb d_A_rootOfFinite_68 (by decide) ?_
        exact b_72 x7 x11 (jlshl x9 2) ((jlushr x5 (2 * x11)) &&& 3) H locs ls hf hP hD hS (lv_sub hl [0, 1, 2, 3, 5] rfl)
  unfold f_A_rootOfFinite at hf
  refine lv_lload_n hx hb d_A_rootOfFinite_0 rfl (lv_at hl 0 rfl) ?_
  obtain ⟨o_1, ho_1, hf⟩ := zbd hf
  refine zSl (isC := []) (isR := []) (isN := []) (wc := []) (wr := []) (wn := fun u => []) (rest := []) (As := [.long x0]) hF zn_A_37 (k_B_mantissa κ X hX l H.size x0 o_1 ho_1) hX hXs hK hA hP hD hS ⟨by decide, by decide⟩ ⟨rfl, rfl, rfl, rfl, rfl, by decide⟩ ⟨rfl, fun _ => rfl, fun _ => rfl⟩ rfl hl.1 rfl (Nat.le_of_ble_eq_true rfl) ⟨Nat.zero_le _, Nat.zero_le _⟩ d_A_rootOfFinite_1 (fun r_1 u H locs hw hP hD hS => ?_)
  subst hw
  obtain ⟨o_4, ho_4, hf⟩ := zbd hf
  refine zSi (isC := []) (isR := []) (isN := []) (wc := []) (wr := []) (wn := fun u => []) (rest := []) (As := [.long r_1]) hF zn_A_57 (k_B_lift κ X hX l H.size r_1 o_4 ho_4) hX hXs hK hA hP hD hS ⟨by decide, by decide⟩ ⟨rfl, rfl, rfl, rfl, rfl, by decide⟩ ⟨rfl, fun _ => rfl, fun _ => rfl⟩ rfl hl.1 rfl (Nat.le_of_ble_eq_true rfl) ⟨Nat.zero_le _, Nat.zero_le _⟩ d_A_rootOfFinite_4 (fun r_4 u H locs hw hP hD hS => ?_)
  subst hw
  refine lv_istore_n (lv' := [(2, .int r_4), (0, .long x0)]) hx hb d_A_rootOfFinite_7 rfl hl (by decide) rfl (fun ls hl => ?_)
  refine lv_lload_n hx hb d_A_rootOfFinite_8 rfl (lv_at hl 1 rfl) ?_
  obtain ⟨o_9, ho_9, hf⟩ := zbd hf
  refine zSi (isC := []) (isR := []) (isN := []) (wc := []) (wr := []) (wn := fun u => []) (rest := []) (As := [.long x0]) hF zn_A_33 (k_B_exponent κ X hX l H.size x0 o_9 ho_9) hX hXs hK hA hP hD hS ⟨by decide, by decide⟩ ⟨rfl, rfl, rfl, rfl, rfl, by decide⟩ ⟨rfl, fun _ => rfl, fun _ => rfl⟩ rfl hl.1 rfl (Nat.le_of_ble_eq_true rfl) ⟨Nat.zero_le _, Nat.zero_le _⟩ d_A_rootOfFinite_9 (fun r_9 u H locs hw hP hD hS => ?_)
  subst hw
  refine lv_iload_n hx hb d_A_rootOfFinite_12 rfl (lv_at hl 0 rfl) ?_
  refine lv_isub hx hb d_A_rootOfFinite_13 ?_
  refine lv_istore_n (lv' := [(3, .int (r_9 - r_4)), (2, .int r_4), (0, .long x0)]) hx hb d_A_rootOfFinite_14 rfl hl (by decide) rfl (fun ls hl => ?_)
  refine lv_iload_n hx hb d_A_rootOfFinite_15 rfl (lv_at hl 0 rfl) ?_
  refine lv_iconst (v := 1) hx hb d_A_rootOfFinite_16 (by decide) ?_
  refine lv_iand hx hb d_A_rootOfFinite_17 ?_
  refine lv_istore (lv' := [(4, .int ((r_9 - r_4) &&& 1)), (3, .int (r_9 - r_4)), (2, .int r_4), (0, .long x0)]) hx hb d_A_rootOfFinite_18 hl (by decide) rfl (fun ls hl => ?_)
  refine lv_lload_n hx hb d_A_rootOfFinite_20 rfl (lv_at hl 3 rfl) ?_
  obtain ⟨o_21, ho_21, hf⟩ := zbd hf
  refine zSl (isC := []) (isR := []) (isN := []) (wc := []) (wr := []) (wn := fun u => []) (rest := []) (As := [.long x0]) hF zn_A_37 (k_B_mantissa κ X hX l H.size x0 o_21 ho_21) hX hXs hK hA hP hD hS ⟨by decide, by decide⟩ ⟨rfl, rfl, rfl, rfl, rfl, by decide⟩ ⟨rfl, fun _ => rfl, fun _ => rfl⟩ rfl hl.1 rfl (Nat.le_of_ble_eq_true rfl) ⟨Nat.zero_le _, Nat.zero_le _⟩ d_A_rootOfFinite_21 (fun r_21 u H locs hw hP hD hS => ?_)
  subst hw
  refine lv_iload_n hx hb d_A_rootOfFinite_24 rfl (lv_at hl 2 rfl) ?_
  refine lv_iload hx hb d_A_rootOfFinite_25 (lv_at hl 0 rfl) ?_
  refine lv_iadd hx hb d_A_rootOfFinite_27 ?_
  refine lv_lshl (v := (jlshl r_21 (r_4 + ((r_9 - r_4) &&& 1)))) hx hb d_A_rootOfFinite_28 rfl ?_
  refine lv_lstore (lv' := [(5, .long (jlshl r_21 (r_4 + ((r_9 - r_4) &&& 1)))), (4, .int ((r_9 - r_4) &&& 1)), (3, .int (r_9 - r_4)), (2, .int r_4), (0, .long x0)]) hx hb d_A_rootOfFinite_29 hl (by decide) rfl (fun ls hl => ?_)
  refine lv_lconst (v := 0) hx hb d_A_rootOfFinite_31 (by decide) ?_
  refine lv_lstore (lv' := [(7, .long 0), (5, .long (jlshl r_21 (r_4 + ((r_9 - r_4) &&& 1)))), (4, .int ((r_9 - r_4) &&& 1)), (3, .int (r_9 - r_4)), (2, .int r_4), (0, .long x0)]) hx hb d_A_rootOfFinite_32 hl (by decide) rfl (fun ls hl => ?_)
  refine lv_lconst (v := 0) hx hb d_A_rootOfFinite_34 (by decide) ?_
  refine lv_lstore (lv' := [(9, .long 0), (7, .long 0), (5, .long (jlshl r_21 (r_4 + ((r_9 - r_4) &&& 1)))), (4, .int ((r_9 - r_4) &&& 1)), (3, .int (r_9 - r_4)), (2, .int r_4), (0, .long x0)]) hx hb d_A_rootOfFinite_35 hl (by decide) rfl (fun ls hl => ?_)
  refine lv_bipush (v := 26) hx hb d_A_rootOfFinite_37 (by decide) ?_
  refine lv_istore (lv' := [(11, .int 26), (9, .long 0), (7, .long 0), (5, .long (jlshl r_21 (r_4 + ((r_9 - r_4) &&& 1)))), (4, .int ((r_9 - r_4) &&& 1)), (3, .int (r_9 - r_4)), (2, .int r_4), (0, .long x0)]) hx hb d_A_rootOfFinite_39 hl (by decide) rfl (fun ls hl => ?_)
  exact b_41 (r_9 - r_4) ((r_9 - r_4) &&& 1) (jlshl r_21 (r_4 + ((r_9 - r_4) &&& 1))) 0 0 26 H locs ls hf hP hD hS (lv_sub hl [5, 4, 3, 2, 1, 0] rfl)
theorem d_A_root_0 : decode c_A_root 0 = .ok (.lload_n 0, 1) := by decide +kernel
theorem d_A_root_1 : decode c_A_root 1 = .ok (.invokestatic 48, 3) := by decide +kernel
theorem d_A_root_4 : decode c_A_root 4 = .ok (.ifCond .eq 5, 3) := by decide +kernel
theorem d_A_root_7 : decode c_A_root 7 = .ok (.lload_n 0, 1) := by decide +kernel
theorem d_A_root_8 : decode c_A_root 8 = .ok (.lreturn, 1) := by decide +kernel
theorem d_A_root_9 : decode c_A_root 9 = .ok (.lload_n 0, 1) := by decide +kernel
theorem d_A_root_10 : decode c_A_root 10 = .ok (.lconst 0, 1) := by decide +kernel
theorem d_A_root_11 : decode c_A_root 11 = .ok (.lcmp, 1) := by decide +kernel
theorem d_A_root_12 : decode c_A_root 12 = .ok (.ifCond .ge 7, 3) := by decide +kernel
theorem d_A_root_15 : decode c_A_root 15 = .ok (.ldc2_w 15, 3) := by decide +kernel
theorem d_A_root_18 : decode c_A_root 18 = .ok (.lreturn, 1) := by decide +kernel
theorem d_A_root_19 : decode c_A_root 19 = .ok (.lload_n 0, 1) := by decide +kernel
theorem d_A_root_20 : decode c_A_root 20 = .ok (.invokestatic 17, 3) := by decide +kernel
theorem d_A_root_23 : decode c_A_root 23 = .ok (.ifCond .eq 7, 3) := by decide +kernel
theorem d_A_root_26 : decode c_A_root 26 = .ok (.lload_n 0, 1) := by decide +kernel
theorem d_A_root_27 : decode c_A_root 27 = .ok (.goto 7, 3) := by decide +kernel
theorem d_A_root_30 : decode c_A_root 30 = .ok (.lload_n 0, 1) := by decide +kernel
theorem d_A_root_31 : decode c_A_root 31 = .ok (.invokestatic 71, 3) := by decide +kernel
theorem d_A_root_34 : decode c_A_root 34 = .ok (.lreturn, 1) := by decide +kernel
theorem zn_A_71 : zNS R_A 71 y_A_rootOfFinite c_A_rootOfFinite 14 (some .long) 1 := ⟨zco_A_rootOfFinite, zin_A, zml_A_71, zst_A_rootOfFinite, by decide +kernel⟩
set_option maxHeartbeats 4000000 in
set_option maxRecDepth 100000 in
theorem k_A_root (κ : zC) (X : zXT) (hX : zX κ X) (l : Launch) (sz : Nat) (x0 : Int64) (out : Int64) (hf : f_A_root x0 = some out) : zMet κ X l y_A_root c_A_root 2 (some .long) 4 105 [.long x0] sz [] (zQl κ (fun (r : Int64) (_ : Unit) => r = out) (fun u => [])) := by
  refine zMet.ofL (by decide +kernel) (Nat.le_of_ble_eq_true rfl) ?_
  intro p e s m args below meth c ls A Q hF hK hP hD hA hXs hS hl hret
  obtain ⟨hx, hb, hml, hown, hts⟩ := id hF
  obtain ⟨H, hH⟩ : ∃ H, H = s.heap := ⟨_, rfl⟩
  obtain ⟨locs, hlo⟩ : ∃ z : List Loc, z = [] := ⟨_, rfl⟩
  replace hP : zP κ [] H := by rw [hH]; exact hP
  replace hS : va_S A s.heap H locs := by rw [hH, hlo]; exact hS
  suffices hgo : W p l e (zR 4 105) s m args below meth c H locs 0 0 Q (F0 m 0 ls []) by rw [hH, hlo] at hgo; exact hgo
  clear hH hlo
  replace hl : lv_has ls 2 [(0, .long x0)] := hl
  unfold f_A_root at hf
  refine lv_lload_n hx hb d_A_root_0 rfl (lv_at hl 0 rfl) ?_
  obtain ⟨o_1, ho_1, hf⟩ := zbd hf
  refine zSi (isC := []) (isR := []) (isN := []) (wc := []) (wr := []) (wn := fun u => []) (rest := []) (As := [.long x0]) hF zn_A_48 (k_B_isZero κ X hX l H.size x0 o_1 ho_1) hX hXs hK hA hP hD hS ⟨by decide, by decide⟩ ⟨rfl, rfl, rfl, rfl, rfl, by decide⟩ ⟨rfl, fun _ => rfl, fun _ => rfl⟩ rfl hl.1 rfl (Nat.le_of_ble_eq_true rfl) ⟨Nat.zero_le _, Nat.zero_le _⟩ d_A_root_1 (fun r_1 u H locs hw hP hD hS => ?_)
  subst hw
  refine lv_if_eq (tgt := 9) hx hb d_A_root_4 (by decide) (fun c_4 => ?_) (fun c_4 => ?_)
  · have hf := (zbr hf).1 c_4
    refine lv_lload_n hx hb d_A_root_9 rfl (lv_at hl 0 rfl) ?_
    refine lv_lconst (v := 0) hx hb d_A_root_10 (by decide) ?_
    refine W.lcmp hx hb d_A_root_11 ?_
    refine lv_if_ge (tgt := 19) hx hb d_A_root_12 (by decide) (fun c_12 => ?_) (fun c_12 => ?_)
    · have hf := (zbr hf).2 (zc_ge.mp c_12)
      refine lv_lload_n hx hb d_A_root_19 rfl (lv_at hl 0 rfl) ?_
      obtain ⟨o_20, ho_20, hf⟩ := zbd hf
      refine zSi (isC := []) (isR := []) (isN := []) (wc := []) (wr := []) (wn := fun u => []) (rest := []) (As := [.long x0]) hF zn_A_17 (k_B_isInfinite κ X hX l H.size x0 o_20 ho_20) hX hXs hK hA hP hD hS ⟨by decide, by decide⟩ ⟨rfl, rfl, rfl, rfl, rfl, by decide⟩ ⟨rfl, fun _ => rfl, fun _ => rfl⟩ rfl hl.1 rfl (Nat.le_of_ble_eq_true rfl) ⟨Nat.zero_le _, Nat.zero_le _⟩ d_A_root_20 (fun r_20 u H locs hw hP hD hS => ?_)
      subst hw
      refine lv_if_eq (tgt := 30) hx hb d_A_root_23 (by decide) (fun c_23 => ?_) (fun c_23 => ?_)
      · have hf := (zbr hf).1 c_23
        refine lv_lload_n hx hb d_A_root_30 rfl (lv_at hl 0 rfl) ?_
        obtain ⟨o_31, ho_31, hf⟩ := zbd hf
        refine zSl (isC := []) (isR := []) (isN := []) (wc := []) (wr := []) (wn := fun u => []) (rest := []) (As := [.long x0]) hF zn_A_71 (k_A_rootOfFinite κ X hX l H.size x0 o_31 ho_31) hX hXs hK hA hP hD hS ⟨by decide, by decide⟩ ⟨rfl, rfl, rfl, rfl, rfl, by decide⟩ ⟨rfl, fun _ => rfl, fun _ => rfl⟩ rfl hl.1 rfl (Nat.le_of_ble_eq_true rfl) ⟨Nat.zero_le _, Nat.zero_le _⟩ d_A_root_31 (fun r_31 u H locs hw hP hD hS => ?_)
        subst hw
        exact hret (r_31) () H locs ls _ d_A_root_34 hP hD hS (Option.some.inj hf)
      · have hf := (zbr hf).2 c_23
        refine lv_lload_n hx hb d_A_root_26 rfl (lv_at hl 0 rfl) ?_
        refine lv_goto (tgt := 34) hx hb d_A_root_27 (by decide) ?_
        exact hret (x0) () H locs ls _ d_A_root_34 hP hD hS (Option.some.inj hf)
    · have hf := (zbr hf).1 (zc_nge c_12)
      refine lv_ldc2 (v := 9221120237041090560) hx hb hown (hts _ zkl_A_15) d_A_root_15 ?_
      exact hret ((9221120237041090560 : Int64)) () H locs ls _ d_A_root_18 hP hD hS (Option.some.inj hf)
  · have hf := (zbr hf).2 c_4
    refine lv_lload_n hx hb d_A_root_7 rfl (lv_at hl 0 rfl) ?_
    exact hret (x0) () H locs ls _ d_A_root_8 hP hD hS (Option.some.inj hf)
