theorem d_H_goesAway_0 : decode c_H_goesAway 0 = .ok (.iload 5, 2) := by decide +kernel
theorem d_H_goesAway_2 : decode c_H_goesAway 2 = .ok (.tableswitch 60 1 3 #[26, 42, 58], 26) := by decide +kernel
theorem d_H_goesAway_28 : decode c_H_goesAway 28 = .ok (.iload_n 0, 1) := by decide +kernel
theorem d_H_goesAway_29 : decode c_H_goesAway 29 = .ok (.ifCond .eq 13, 3) := by decide +kernel
theorem d_H_goesAway_32 : decode c_H_goesAway 32 = .ok (.lload_n 1, 1) := by decide +kernel
theorem d_H_goesAway_33 : decode c_H_goesAway 33 = .ok (.lconst 0, 1) := by decide +kernel
theorem d_H_goesAway_34 : decode c_H_goesAway 34 = .ok (.lcmp, 1) := by decide +kernel
theorem d_H_goesAway_35 : decode c_H_goesAway 35 = .ok (.ifCond .eq 7, 3) := by decide +kernel
theorem d_H_goesAway_38 : decode c_H_goesAway 38 = .ok (.iconst 1, 1) := by decide +kernel
theorem d_H_goesAway_39 : decode c_H_goesAway 39 = .ok (.goto 4, 3) := by decide +kernel
theorem d_H_goesAway_42 : decode c_H_goesAway 42 = .ok (.iconst 0, 1) := by decide +kernel
theorem d_H_goesAway_43 : decode c_H_goesAway 43 = .ok (.ireturn, 1) := by decide +kernel
theorem d_H_goesAway_44 : decode c_H_goesAway 44 = .ok (.iload_n 0, 1) := by decide +kernel
theorem d_H_goesAway_45 : decode c_H_goesAway 45 = .ok (.ifCond .ne 13, 3) := by decide +kernel
theorem d_H_goesAway_48 : decode c_H_goesAway 48 = .ok (.lload_n 1, 1) := by decide +kernel
theorem d_H_goesAway_49 : decode c_H_goesAway 49 = .ok (.lconst 0, 1) := by decide +kernel
theorem d_H_goesAway_50 : decode c_H_goesAway 50 = .ok (.lcmp, 1) := by decide +kernel
theorem d_H_goesAway_51 : decode c_H_goesAway 51 = .ok (.ifCond .eq 7, 3) := by decide +kernel
theorem d_H_goesAway_54 : decode c_H_goesAway 54 = .ok (.iconst 1, 1) := by decide +kernel
theorem d_H_goesAway_55 : decode c_H_goesAway 55 = .ok (.goto 4, 3) := by decide +kernel
theorem d_H_goesAway_58 : decode c_H_goesAway 58 = .ok (.iconst 0, 1) := by decide +kernel
theorem d_H_goesAway_59 : decode c_H_goesAway 59 = .ok (.ireturn, 1) := by decide +kernel
theorem d_H_goesAway_60 : decode c_H_goesAway 60 = .ok (.iconst 0, 1) := by decide +kernel
theorem d_H_goesAway_61 : decode c_H_goesAway 61 = .ok (.ireturn, 1) := by decide +kernel
theorem d_H_goesAway_62 : decode c_H_goesAway 62 = .ok (.iload_n 0, 1) := by decide +kernel
theorem d_H_goesAway_63 : decode c_H_goesAway 63 = .ok (.ifCond .eq 17, 3) := by decide +kernel
theorem d_H_goesAway_66 : decode c_H_goesAway 66 = .ok (.lload_n 1, 1) := by decide +kernel
theorem d_H_goesAway_67 : decode c_H_goesAway 67 = .ok (.lload_n 3, 1) := by decide +kernel
theorem d_H_goesAway_68 : decode c_H_goesAway 68 = .ok (.lcmp, 1) := by decide +kernel
theorem d_H_goesAway_69 : decode c_H_goesAway 69 = .ok (.ifCond .le 7, 3) := by decide +kernel
theorem d_H_goesAway_72 : decode c_H_goesAway 72 = .ok (.iconst 1, 1) := by decide +kernel
theorem d_H_goesAway_73 : decode c_H_goesAway 73 = .ok (.goto 18, 3) := by decide +kernel
theorem d_H_goesAway_76 : decode c_H_goesAway 76 = .ok (.iconst 0, 1) := by decide +kernel
theorem d_H_goesAway_77 : decode c_H_goesAway 77 = .ok (.goto 14, 3) := by decide +kernel
theorem d_H_goesAway_80 : decode c_H_goesAway 80 = .ok (.lload_n 1, 1) := by decide +kernel
theorem d_H_goesAway_81 : decode c_H_goesAway 81 = .ok (.lload_n 3, 1) := by decide +kernel
theorem d_H_goesAway_82 : decode c_H_goesAway 82 = .ok (.lcmp, 1) := by decide +kernel
theorem d_H_goesAway_83 : decode c_H_goesAway 83 = .ok (.ifCond .lt 7, 3) := by decide +kernel
theorem d_H_goesAway_86 : decode c_H_goesAway 86 = .ok (.iconst 1, 1) := by decide +kernel
theorem d_H_goesAway_87 : decode c_H_goesAway 87 = .ok (.goto 4, 3) := by decide +kernel
theorem d_H_goesAway_90 : decode c_H_goesAway 90 = .ok (.iconst 0, 1) := by decide +kernel
theorem d_H_goesAway_91 : decode c_H_goesAway 91 = .ok (.ireturn, 1) := by decide +kernel
set_option maxHeartbeats 4000000 in
set_option maxRecDepth 100000 in
theorem k_H_goesAway (κ : zC) (X : zXT) (hX : zX κ X) (l : Launch) (sz : Nat) (x0 : Int32) (x1 : Int64) (x3 : Int64) (x5 : Int32) (out : Int32) (hf : f_H_goesAway x0 x1 x3 x5 = some out) : zMet κ X l y_H_goesAway c_H_goesAway 6 (some .boolean) 0 0 [.int x0, .long x1, .long x3, .int x5] sz [] (zQi κ (fun (r : Int32) (_ : Unit) => r = out) (fun u => [])) := by
  refine zMet.ofZ (by decide +kernel) (Nat.le_of_ble_eq_true rfl) ?_
  intro p e s m args below meth c ls A Q hF hK hP hD hA hXs hS hl hret
  obtain ⟨hx, hb, hml, hown, hts⟩ := id hF
  obtain ⟨H, hH⟩ : ∃ H, H = s.heap := ⟨_, rfl⟩
  obtain ⟨locs, hlo⟩ : ∃ z : List Loc, z = [] := ⟨_, rfl⟩
  replace hP : zP κ [] H := by rw [hH]; exact hP
  replace hS : va_S A s.heap H locs := by rw [hH, hlo]; exact hS
  suffices hgo : W p l e (zR 0 0) s m args below meth c H locs 0 0 Q (F0 m 0 ls []) by rw [hH, hlo] at hgo; exact hgo
  clear hH hlo
  replace hl : lv_has ls 6 [(0, .int x0), (1, .long x1), (3, .long x3), (5, .int x5)] := hl
  unfold f_H_goesAway at hf
  refine lv_iload hx hb d_H_goesAway_0 (lv_at hl 3 rfl) ?_
  by_cases c_2_1 : x5 = 1
  · have hf := (zbr hf).1 c_2_1
    rw [c_2_1]
    refine lv_tableIn (tgt := 28) hx hb d_H_goesAway_2 (by decide) (by decide) (off := 26) (by decide) (by decide) ?_
    refine lv_iload_n hx hb d_H_goesAway_28 rfl (lv_at hl 0 rfl) ?_
    refine lv_if_eq (tgt := 42) hx hb d_H_goesAway_29 (by decide) (fun c_29 => ?_) (fun c_29 => ?_)
    · have hf := (zbr hf).1 c_29
      refine lv_iconst (v := 0) hx hb d_H_goesAway_42 (by decide) ?_
      exact hret ((0 : Int32)) () H locs ls _ d_H_goesAway_43 hP hD hS (by decide) (Option.some.inj hf)
    · have hf := (zbr hf).2 c_29
      refine lv_lload_n hx hb d_H_goesAway_32 rfl (lv_at hl 1 rfl) ?_
      refine lv_lconst (v := 0) hx hb d_H_goesAway_33 (by decide) ?_
      refine W.lcmp hx hb d_H_goesAway_34 ?_
      refine lv_if_eq (tgt := 42) hx hb d_H_goesAway_35 (by decide) (fun c_35 => ?_) (fun c_35 => ?_)
      · have hf := (zbr hf).1 (zc_eq.mp c_35)
        refine lv_iconst (v := 0) hx hb d_H_goesAway_42 (by decide) ?_
        exact hret ((0 : Int32)) () H locs ls _ d_H_goesAway_43 hP hD hS (by decide) (Option.some.inj hf)
      · have hf := (zbr hf).2 (zc_neq c_35)
        refine lv_iconst (v := 1) hx hb d_H_goesAway_38 (by decide) ?_
        refine lv_goto (tgt := 43) hx hb d_H_goesAway_39 (by decide) ?_
        exact hret ((1 : Int32)) () H locs ls _ d_H_goesAway_43 hP hD hS (by decide) (Option.some.inj hf)
  have hf := (zbr hf).2 c_2_1
  by_cases c_2_2 : x5 = 2
  · have hf := (zbr hf).1 c_2_2
    rw [c_2_2]
    refine lv_tableIn (tgt := 44) hx hb d_H_goesAway_2 (by decide) (by decide) (off := 42) (by decide) (by decide) ?_
    refine lv_iload_n hx hb d_H_goesAway_44 rfl (lv_at hl 0 rfl) ?_
    refine lv_if_ne (tgt := 58) hx hb d_H_goesAway_45 (by decide) (fun c_45 => ?_) (fun c_45 => ?_)
    · have hf := (zbr hf).2 c_45
      refine lv_iconst (v := 0) hx hb d_H_goesAway_58 (by decide) ?_
      exact hret ((0 : Int32)) () H locs ls _ d_H_goesAway_59 hP hD hS (by decide) (Option.some.inj hf)
    · have hf := (zbr hf).1 c_45
      refine lv_lload_n hx hb d_H_goesAway_48 rfl (lv_at hl 1 rfl) ?_
      refine lv_lconst (v := 0) hx hb d_H_goesAway_49 (by decide) ?_
      refine W.lcmp hx hb d_H_goesAway_50 ?_
      refine lv_if_eq (tgt := 58) hx hb d_H_goesAway_51 (by decide) (fun c_51 => ?_) (fun c_51 => ?_)
      · have hf := (zbr hf).1 (zc_eq.mp c_51)
        refine lv_iconst (v := 0) hx hb d_H_goesAway_58 (by decide) ?_
        exact hret ((0 : Int32)) () H locs ls _ d_H_goesAway_59 hP hD hS (by decide) (Option.some.inj hf)
      · have hf := (zbr hf).2 (zc_neq c_51)
        refine lv_iconst (v := 1) hx hb d_H_goesAway_54 (by decide) ?_
        refine lv_goto (tgt := 59) hx hb d_H_goesAway_55 (by decide) ?_
        exact hret ((1 : Int32)) () H locs ls _ d_H_goesAway_59 hP hD hS (by decide) (Option.some.inj hf)
  have hf := (zbr hf).2 c_2_2
  by_cases c_2_3 : x5 = 3
  · have hf := (zbr hf).1 c_2_3
    rw [c_2_3]
    refine lv_tableIn (tgt := 60) hx hb d_H_goesAway_2 (by decide) (by decide) (off := 58) (by decide) (by decide) ?_
    refine lv_iconst (v := 0) hx hb d_H_goesAway_60 (by decide) ?_
    exact hret ((0 : Int32)) () H locs ls _ d_H_goesAway_61 hP hD hS (by decide) (Option.some.inj hf)
  have hf := (zbr hf).2 c_2_3
  refine lv_tableOut (tgt := 62) hx hb d_H_goesAway_2 (by have h_1 := zti c_2_1 (n := 1) (by decide); have h_2 := zti c_2_2 (n := 2) (by decide); have h_3 := zti c_2_3 (n := 3) (by decide); omega) (by decide) ?_
  refine lv_iload_n hx hb d_H_goesAway_62 rfl (lv_at hl 0 rfl) ?_
  refine lv_if_eq (tgt := 80) hx hb d_H_goesAway_63 (by decide) (fun c_63 => ?_) (fun c_63 => ?_)
  · have hf := (zbr hf).1 c_63
    refine lv_lload_n hx hb d_H_goesAway_80 rfl (lv_at hl 1 rfl) ?_
    refine lv_lload_n hx hb d_H_goesAway_81 rfl (lv_at hl 2 rfl) ?_
    refine W.lcmp hx hb d_H_goesAway_82 ?_
    refine lv_if_lt (tgt := 90) hx hb d_H_goesAway_83 (by decide) (fun c_83 => ?_) (fun c_83 => ?_)
    · have hf := (zbr hf).1 (zc_lt.mp c_83)
      refine lv_iconst (v := 0) hx hb d_H_goesAway_90 (by decide) ?_
      exact hret ((0 : Int32)) () H locs ls _ d_H_goesAway_91 hP hD hS (by decide) (Option.some.inj hf)
    · have hf := (zbr hf).2 (zc_nlt c_83)
      refine lv_iconst (v := 1) hx hb d_H_goesAway_86 (by decide) ?_
      refine lv_goto (tgt := 91) hx hb d_H_goesAway_87 (by decide) ?_
      exact hret ((1 : Int32)) () H locs ls _ d_H_goesAway_91 hP hD hS (by decide) (Option.some.inj hf)
  · have hf := (zbr hf).2 c_63
    refine lv_lload_n hx hb d_H_goesAway_66 rfl (lv_at hl 1 rfl) ?_
    refine lv_lload_n hx hb d_H_goesAway_67 rfl (lv_at hl 2 rfl) ?_
    refine W.lcmp hx hb d_H_goesAway_68 ?_
    refine lv_if_le (tgt := 76) hx hb d_H_goesAway_69 (by decide) (fun c_69 => ?_) (fun c_69 => ?_)
    · have hf := (zbr hf).2 (zc_le.mp c_69)
      refine lv_iconst (v := 0) hx hb d_H_goesAway_76 (by decide) ?_
      refine lv_goto (tgt := 91) hx hb d_H_goesAway_77 (by decide) ?_
      exact hret ((0 : Int32)) () H locs ls _ d_H_goesAway_91 hP hD hS (by decide) (Option.some.inj hf)
    · have hf := (zbr hf).1 (zc_nle c_69)
      refine lv_iconst (v := 1) hx hb d_H_goesAway_72 (by decide) ?_
      refine lv_goto (tgt := 91) hx hb d_H_goesAway_73 (by decide) ?_
      exact hret ((1 : Int32)) () H locs ls _ d_H_goesAway_91 hP hD hS (by decide) (Option.some.inj hf)
theorem d_H_wholeNear_0 : decode c_H_wholeNear 0 = .ok (.lload_n 0, 1) := by decide +kernel
theorem d_H_wholeNear_1 : decode c_H_wholeNear 1 = .ok (.invokestatic 7, 3) := by decide +kernel
theorem d_H_wholeNear_4 : decode c_H_wholeNear 4 = .ok (.ifCond .ne 10, 3) := by decide +kernel
theorem d_H_wholeNear_7 : decode c_H_wholeNear 7 = .ok (.lload_n 0, 1) := by decide +kernel
theorem d_H_wholeNear_8 : decode c_H_wholeNear 8 = .ok (.invokestatic 13, 3) := by decide +kernel
theorem d_H_wholeNear_11 : decode c_H_wholeNear 11 = .ok (.ifCond .lt 5, 3) := by decide +kernel
theorem d_H_wholeNear_14 : decode c_H_wholeNear 14 = .ok (.lload_n 0, 1) := by decide +kernel
theorem d_H_wholeNear_15 : decode c_H_wholeNear 15 = .ok (.lreturn, 1) := by decide +kernel
theorem d_H_wholeNear_16 : decode c_H_wholeNear 16 = .ok (.lload_n 0, 1) := by decide +kernel
theorem d_H_wholeNear_17 : decode c_H_wholeNear 17 = .ok (.invokestatic 13, 3) := by decide +kernel
theorem d_H_wholeNear_20 : decode c_H_wholeNear 20 = .ok (.ineg, 1) := by decide +kernel
theorem d_H_wholeNear_21 : decode c_H_wholeNear 21 = .ok (.bipush 60, 2) := by decide +kernel
theorem d_H_wholeNear_23 : decode c_H_wholeNear 23 = .ok (.invokestatic 19, 3) := by decide +kernel
theorem d_H_wholeNear_26 : decode c_H_wholeNear 26 = .ok (.istore_n 3, 1) := by decide +kernel
theorem d_H_wholeNear_27 : decode c_H_wholeNear 27 = .ok (.lload_n 0, 1) := by decide +kernel
theorem d_H_wholeNear_28 : decode c_H_wholeNear 28 = .ok (.invokestatic 25, 3) := by decide +kernel
theorem d_H_wholeNear_31 : decode c_H_wholeNear 31 = .ok (.lstore 4, 2) := by decide +kernel
theorem d_H_wholeNear_33 : decode c_H_wholeNear 33 = .ok (.lload 4, 2) := by decide +kernel
theorem d_H_wholeNear_35 : decode c_H_wholeNear 35 = .ok (.lconst 1, 1) := by decide +kernel
theorem d_H_wholeNear_36 : decode c_H_wholeNear 36 = .ok (.iload_n 3, 1) := by decide +kernel
theorem d_H_wholeNear_37 : decode c_H_wholeNear 37 = .ok (.lshl, 1) := by decide +kernel
theorem d_H_wholeNear_38 : decode c_H_wholeNear 38 = .ok (.lconst 1, 1) := by decide +kernel
theorem d_H_wholeNear_39 : decode c_H_wholeNear 39 = .ok (.lsub, 1) := by decide +kernel
theorem d_H_wholeNear_40 : decode c_H_wholeNear 40 = .ok (.land, 1) := by decide +kernel
theorem d_H_wholeNear_41 : decode c_H_wholeNear 41 = .ok (.lstore 6, 2) := by decide +kernel
theorem d_H_wholeNear_43 : decode c_H_wholeNear 43 = .ok (.lload 4, 2) := by decide +kernel
theorem d_H_wholeNear_45 : decode c_H_wholeNear 45 = .ok (.iload_n 3, 1) := by decide +kernel
theorem d_H_wholeNear_46 : decode c_H_wholeNear 46 = .ok (.lushr, 1) := by decide +kernel
theorem d_H_wholeNear_47 : decode c_H_wholeNear 47 = .ok (.lstore 8, 2) := by decide +kernel
theorem d_H_wholeNear_49 : decode c_H_wholeNear 49 = .ok (.lload_n 0, 1) := by decide +kernel
theorem d_H_wholeNear_50 : decode c_H_wholeNear 50 = .ok (.lconst 0, 1) := by decide +kernel
theorem d_H_wholeNear_51 : decode c_H_wholeNear 51 = .ok (.lcmp, 1) := by decide +kernel
theorem d_H_wholeNear_52 : decode c_H_wholeNear 52 = .ok (.ifCond .ge 7, 3) := by decide +kernel
theorem d_H_wholeNear_55 : decode c_H_wholeNear 55 = .ok (.iconst 1, 1) := by decide +kernel
theorem d_H_wholeNear_56 : decode c_H_wholeNear 56 = .ok (.goto 4, 3) := by decide +kernel
theorem d_H_wholeNear_59 : decode c_H_wholeNear 59 = .ok (.iconst 0, 1) := by decide +kernel
theorem d_H_wholeNear_60 : decode c_H_wholeNear 60 = .ok (.lload 6, 2) := by decide +kernel
theorem d_H_wholeNear_62 : decode c_H_wholeNear 62 = .ok (.lconst 1, 1) := by decide +kernel
theorem d_H_wholeNear_63 : decode c_H_wholeNear 63 = .ok (.iload_n 3, 1) := by decide +kernel
theorem d_H_wholeNear_64 : decode c_H_wholeNear 64 = .ok (.iconst 1, 1) := by decide +kernel
theorem d_H_wholeNear_65 : decode c_H_wholeNear 65 = .ok (.isub, 1) := by decide +kernel
theorem d_H_wholeNear_66 : decode c_H_wholeNear 66 = .ok (.lshl, 1) := by decide +kernel
theorem d_H_wholeNear_67 : decode c_H_wholeNear 67 = .ok (.iload_n 2, 1) := by decide +kernel
theorem d_H_wholeNear_68 : decode c_H_wholeNear 68 = .ok (.invokestatic 29, 3) := by decide +kernel
theorem d_H_wholeNear_71 : decode c_H_wholeNear 71 = .ok (.istore 10, 2) := by decide +kernel
theorem d_H_wholeNear_73 : decode c_H_wholeNear 73 = .ok (.lload_n 0, 1) := by decide +kernel
theorem d_H_wholeNear_74 : decode c_H_wholeNear 74 = .ok (.ldc2_w 33, 3) := by decide +kernel
theorem d_H_wholeNear_77 : decode c_H_wholeNear 77 = .ok (.land, 1) := by decide +kernel
theorem d_H_wholeNear_78 : decode c_H_wholeNear 78 = .ok (.iload 10, 2) := by decide +kernel
theorem d_H_wholeNear_80 : decode c_H_wholeNear 80 = .ok (.ifCond .eq 10, 3) := by decide +kernel
theorem d_H_wholeNear_83 : decode c_H_wholeNear 83 = .ok (.lload 8, 2) := by decide +kernel
theorem d_H_wholeNear_85 : decode c_H_wholeNear 85 = .ok (.lconst 1, 1) := by decide +kernel
theorem d_H_wholeNear_86 : decode c_H_wholeNear 86 = .ok (.ladd, 1) := by decide +kernel
theorem d_H_wholeNear_87 : decode c_H_wholeNear 87 = .ok (.goto 5, 3) := by decide +kernel
theorem d_H_wholeNear_90 : decode c_H_wholeNear 90 = .ok (.lload 8, 2) := by decide +kernel
theorem d_H_wholeNear_92 : decode c_H_wholeNear 92 = .ok (.iconst 0, 1) := by decide +kernel
theorem d_H_wholeNear_93 : decode c_H_wholeNear 93 = .ok (.invokestatic 35, 3) := by decide +kernel
theorem d_H_wholeNear_96 : decode c_H_wholeNear 96 = .ok (.lreturn, 1) := by decide +kernel
theorem zn_H_7 : zNS R_H 7 y_B_isInfinite c_B_isInfinite 2 (some .boolean) 1 := ⟨zco_B_isInfinite, zin_B, zml_H_7, zst_B_isInfinite, by decide +kernel⟩
theorem zn_H_13 : zNS R_H 13 y_B_exponent c_B_exponent 3 (some .int) 1 := ⟨zco_B_exponent, zin_B, zml_H_13, zst_B_exponent, by decide +kernel⟩
theorem zn_H_25 : zNS R_H 25 y_B_mantissa c_B_mantissa 4 (some .long) 1 := ⟨zco_B_mantissa, zin_B, zml_H_25, zst_B_mantissa, by decide +kernel⟩
theorem zn_H_29 : zNS R_H 29 y_H_goesAway c_H_goesAway 6 (some .boolean) 4 := ⟨zco_H_goesAway, zin_H, zml_H_29, zst_H_goesAway, by decide +kernel⟩
theorem zn_H_35 : zNS R_H 35 y_B_round c_B_round 9 (some .long) 3 := ⟨zco_B_round, zin_B, zml_H_35, zst_B_round, by decide +kernel⟩
set_option maxHeartbeats 4000000 in
set_option maxRecDepth 100000 in
theorem k_H_wholeNear (κ : zC) (X : zXT) (hX : zX κ X) (l : Launch) (sz : Nat) (x0 : Int64) (x2 : Int32) (out : Int64) (hf : f_H_wholeNear x0 x2 = some out) : zMet κ X l y_H_wholeNear c_H_wholeNear 11 (some .long) 3 72 [.long x0, .int x2] sz [] (zQl κ (fun (r : Int64) (_ : Unit) => r = out) (fun u => [])) := by
  refine zMet.ofL (by decide +kernel) (Nat.le_of_ble_eq_true rfl) ?_
  intro p e s m args below meth c ls A Q hF hK hP hD hA hXs hS hl hret
  obtain ⟨hx, hb, hml, hown, hts⟩ := id hF
  obtain ⟨H, hH⟩ : ∃ H, H = s.heap := ⟨_, rfl⟩
  obtain ⟨locs, hlo⟩ : ∃ z : List Loc, z = [] := ⟨_, rfl⟩
  replace hP : zP κ [] H := by rw [hH]; exact hP
  replace hS : va_S A s.heap H locs := by rw [hH, hlo]; exact hS
  suffices hgo : W p l e (zR 3 72) s m args below meth c H locs 0 0 Q (F0 m 0 ls []) by rw [hH, hlo] at hgo; exact hgo
  clear hH hlo
  replace hl : lv_has ls 11 [(0, .long x0), (2, .int x2)] := hl
  have b_92 : ∀ (s0 : Int64) (s1 : Int64) (H : Heap) (locs : List Loc) (ls : Array Slot), f_H_wholeNear_92 s0 s1 = some out → zP κ [] H → va_D A [] → va_S A s.heap H locs → lv_has ls 11 [] → W p l e (zR 3 72) s m args below meth c H locs 0 0 Q (F0 m 92 ls [.long s1, .long s0]) := by
    intro s0 s1 H locs ls hf hP hD hS hl
    unfold f_H_wholeNear_92 at hf
    refine lv_iconst (v := 0) hx hb d_H_wholeNear_92 (by decide) ?_
    obtain ⟨o_93, ho_93, hf⟩ := zbd hf
    refine zSl (isC := []) (isR := []) (isN := []) (wc := []) (wr := []) (wn := fun u => []) (rest := []) (As := [.long s0, .long s1, .int 0]) hF zn_H_35 (k_B_round κ X hX l H.size s0 s1 0 o_93 ho_93) hX hXs hK hA hP hD hS ⟨by decide, by decide⟩ ⟨rfl, rfl, rfl, rfl, rfl, by decide⟩ ⟨rfl, fun _ => rfl, fun _ => rfl⟩ rfl hl.1 rfl (Nat.le_of_ble_eq_true rfl) ⟨Nat.zero_le _, Nat.zero_le _⟩ d_H_wholeNear_93 (fun r_93 u H locs hw hP hD hS => ?_)
    subst hw
    exact hret (r_93) () H locs ls _ d_H_wholeNear_96 hP hD hS (Option.some.inj hf)
  have b_60 : ∀ (x0 : Int64) (x2 : Int32) (x3 : Int32) (x6 : Int64) (x8 : Int64) (s0 : Int32) (H : Heap) (locs : List Loc) (ls : Array Slot), f_H_wholeNear_60 x0 x2 x3 x6 x8 s0 = some out → zP κ [] H → va_D A [] → va_S A s.heap H locs → lv_has ls 11 [(0, .long x0), (2, .int x2), (3, .int x3), (6, .long x6), (8, .long x8)] → W p l e (zR 3 72) s m args below meth c H locs 0 0 Q (F0 m 60 ls [.int s0]) := by
    intro x0 x2 x3 x6 x8 s0 H locs ls hf hP hD hS hl
    unfold f_H_wholeNear_60 at hf
    refine lv_lload hx hb d_H_wholeNear_60 (lv_at hl 3 rfl) ?_
    refine lv_lconst (v := 1) hx hb d_H_wholeNear_62 (by decide) ?_
    refine lv_iload_n hx hb d_H_wholeNear_63 rfl (lv_at hl 2 rfl) ?_
    refine lv_iconst (v := 1) hx hb d_H_wholeNear_64 (by decide) ?_
    refine lv_isub hx hb d_H_wholeNear_65 ?_
    refine lv_lshl (v := (jlshl 1 (x3 - 1))) hx hb d_H_wholeNear_66 rfl ?_
    refine lv_iload_n hx hb d_H_wholeNear_67 rfl (lv_at hl 1 rfl) ?_
    obtain ⟨o_68, ho_68, hf⟩ := zbd hf
    refine zSi (isC := []) (isR := []) (isN := []) (wc := []) (wr := []) (wn := fun u => []) (rest := []) (As := [.int s0, .long x6, .long (jlshl 1 (x3 - 1)), .int x2]) hF zn_H_29 (k_H_goesAway κ X hX l H.size s0 x6 (jlshl 1 (x3 - 1)) x2 o_68 ho_68) hX hXs hK hA hP hD hS ⟨by decide, by decide⟩ ⟨rfl, rfl, rfl, rfl, rfl, by decide⟩ ⟨rfl, fun _ => rfl, fun _ => rfl⟩ rfl hl.1 rfl (Nat.le_of_ble_eq_true rfl) ⟨Nat.zero_le _, Nat.zero_le _⟩ d_H_wholeNear_68 (fun r_68 u H locs hw hP hD hS => ?_)
    subst hw
    refine lv_istore (lv' := [(10, .int r_68), (0, .long x0), (2, .int x2), (3, .int x3), (6, .long x6), (8, .long x8)]) hx hb d_H_wholeNear_71 hl (by decide) rfl (fun ls hl => ?_)
    refine lv_lload_n hx hb d_H_wholeNear_73 rfl (lv_at hl 1 rfl) ?_
    refine lv_ldc2 (v := (-9223372036854775808)) hx hb hown (hts _ zkl_H_33) d_H_wholeNear_74 ?_
    refine lv_land hx hb d_H_wholeNear_77 ?_
    refine lv_iload hx hb d_H_wholeNear_78 (lv_at hl 0 rfl) ?_
    refine lv_if_eq (tgt := 90) hx hb d_H_wholeNear_80 (by decide) (fun c_80 => ?_) (fun c_80 => ?_)
    · have hf := (zbr hf).1 c_80
      refine lv_lload hx hb d_H_wholeNear_90 (lv_at hl 5 rfl) ?_
      exact b_92 (x0 &&& (-9223372036854775808)) x8 H locs ls hf hP hD hS (lv_sub hl [] rfl)
    · have hf := (zbr hf).2 c_80
      refine lv_lload hx hb d_H_wholeNear_83 (lv_at hl 5 rfl) ?_
      refine lv_lconst (v := 1) hx hb d_H_wholeNear_85 (by decide) ?_
      refine lv_ladd hx hb d_H_wholeNear_86 ?_
      refine lv_goto (tgt := 92) hx hb d_H_wholeNear_87 (by decide) ?_
      exact b_92 (x0 &&& (-9223372036854775808)) (x8 + 1) H locs ls hf hP hD hS (lv_sub hl [] rfl)
  unfold f_H_wholeNear at hf
  refine lv_lload_n hx hb d_H_wholeNear_0 rfl (lv_at hl 0 rfl) ?_
  obtain ⟨o_1, ho_1, hf⟩ := zbd hf
  refine zSi (isC := []) (isR := []) (isN := []) (wc := []) (wr := []) (wn := fun u => []) (rest := []) (As := [.long x0]) hF zn_H_7 (k_B_isInfinite κ X hX l H.size x0 o_1 ho_1) hX hXs hK hA hP hD hS ⟨by decide, by decide⟩ ⟨rfl, rfl, rfl, rfl, rfl, by decide⟩ ⟨rfl, fun _ => rfl, fun _ => rfl⟩ rfl hl.1 rfl (Nat.le_of_ble_eq_true rfl) ⟨Nat.zero_le _, Nat.zero_le _⟩ d_H_wholeNear_1 (fun r_1 u H locs hw hP hD hS => ?_)
  subst hw
  refine lv_if_ne (tgt := 14) hx hb d_H_wholeNear_4 (by decide) (fun c_4 => ?_) (fun c_4 => ?_)
  · have hf := (zbr hf).2 c_4
    refine lv_lload_n hx hb d_H_wholeNear_14 rfl (lv_at hl 0 rfl) ?_
    exact hret (x0) () H locs ls _ d_H_wholeNear_15 hP hD hS (Option.some.inj hf)
  · have hf := (zbr hf).1 c_4
    refine lv_lload_n hx hb d_H_wholeNear_7 rfl (lv_at hl 0 rfl) ?_
    obtain ⟨o_8, ho_8, hf⟩ := zbd hf
    refine zSi (isC := []) (isR := []) (isN := []) (wc := []) (wr := []) (wn := fun u => []) (rest := []) (As := [.long x0]) hF zn_H_13 (k_B_exponent κ X hX l H.size x0 o_8 ho_8) hX hXs hK hA hP hD hS ⟨by decide, by decide⟩ ⟨rfl, rfl, rfl, rfl, rfl, by decide⟩ ⟨rfl, fun _ => rfl, fun _ => rfl⟩ rfl hl.1 rfl (Nat.le_of_ble_eq_true rfl) ⟨Nat.zero_le _, Nat.zero_le _⟩ d_H_wholeNear_8 (fun r_8 u H locs hw hP hD hS => ?_)
    subst hw
    refine lv_if_lt (tgt := 16) hx hb d_H_wholeNear_11 (by decide) (fun c_11 => ?_) (fun c_11 => ?_)
    · have hf := (zbr hf).1 c_11
      refine lv_lload_n hx hb d_H_wholeNear_16 rfl (lv_at hl 0 rfl) ?_
      obtain ⟨o_17, ho_17, hf⟩ := zbd hf
      refine zSi (isC := []) (isR := []) (isN := []) (wc := []) (wr := []) (wn := fun u => []) (rest := []) (As := [.long x0]) hF zn_H_13 (k_B_exponent κ X hX l H.size x0 o_17 ho_17) hX hXs hK hA hP hD hS ⟨by decide, by decide⟩ ⟨rfl, rfl, rfl, rfl, rfl, by decide⟩ ⟨rfl, fun _ => rfl, fun _ => rfl⟩ rfl hl.1 rfl (Nat.le_of_ble_eq_true rfl) ⟨Nat.zero_le _, Nat.zero_le _⟩ d_H_wholeNear_17 (fun r_17 u H locs hw hP hD hS => ?_)
      subst hw
      refine lv_ineg hx hb d_H_wholeNear_20 ?_
      refine lv_bipush (v := 60) hx hb d_H_wholeNear_21 (by decide) ?_
      refine va_mmin hx hb (hml.trans hl.1.symm) hown (hts _ zml_H_19) (hts _ zst_JM_min) (hts _ zin_JM) (hts _ zco_JM_min) (by decide) (Nat.le_of_ble_eq_true rfl) (Nat.zero_le _) (Nat.zero_le _) d_H_wholeNear_23 ?_
      refine lv_istore_n (lv' := [(3, .int (if 60 < (-r_17) then 60 else (-r_17))), (0, .long x0), (2, .int x2)]) hx hb d_H_wholeNear_26 rfl hl (by decide) rfl (fun ls hl => ?_)
      refine lv_lload_n hx hb d_H_wholeNear_27 rfl (lv_at hl 1 rfl) ?_
      obtain ⟨o_28, ho_28, hf⟩ := zbd hf
      refine zSl (isC := []) (isR := []) (isN := []) (wc := []) (wr := []) (wn := fun u => []) (rest := []) (As := [.long x0]) hF zn_H_25 (k_B_mantissa κ X hX l H.size x0 o_28 ho_28) hX hXs hK hA hP hD hS ⟨by decide, by decide⟩ ⟨rfl, rfl, rfl, rfl, rfl, by decide⟩ ⟨rfl, fun _ => rfl, fun _ => rfl⟩ rfl hl.1 rfl (Nat.le_of_ble_eq_true rfl) ⟨Nat.zero_le _, Nat.zero_le _⟩ d_H_wholeNear_28 (fun r_28 u H locs hw hP hD hS => ?_)
      subst hw
      refine lv_lstore (lv' := [(4, .long r_28), (3, .int (if 60 < (-r_17) then 60 else (-r_17))), (0, .long x0), (2, .int x2)]) hx hb d_H_wholeNear_31 hl (by decide) rfl (fun ls hl => ?_)
      refine lv_lload hx hb d_H_wholeNear_33 (lv_at hl 0 rfl) ?_
      refine lv_lconst (v := 1) hx hb d_H_wholeNear_35 (by decide) ?_
      refine lv_iload_n hx hb d_H_wholeNear_36 rfl (lv_at hl 1 rfl) ?_
      refine lv_lshl (v := (jlshl 1 (if 60 < (-r_17) then 60 else (-r_17)))) hx hb d_H_wholeNear_37 rfl ?_
      refine lv_lconst (v := 1) hx hb d_H_wholeNear_38 (by decide) ?_
      refine lv_lsub hx hb d_H_wholeNear_39 ?_
      refine lv_land hx hb d_H_wholeNear_40 ?_
      refine lv_lstore (lv' := [(6, .long (r_28 &&& ((jlshl 1 (if 60 < (-r_17) then 60 else (-r_17))) - 1))), (4, .long r_28), (3, .int (if 60 < (-r_17) then 60 else (-r_17))), (0, .long x0), (2, .int x2)]) hx hb d_H_wholeNear_41 hl (by decide) rfl (fun ls hl => ?_)
      refine lv_lload hx hb d_H_wholeNear_43 (lv_at hl 1 rfl) ?_
      refine lv_iload_n hx hb d_H_wholeNear_45 rfl (lv_at hl 2 rfl) ?_
      refine lv_lushr (v := (jlushr r_28 (if 60 < (-r_17) then 60 else (-r_17)))) hx hb d_H_wholeNear_46 rfl ?_
      refine lv_lstore (lv' := [(8, .long (jlushr r_28 (if 60 < (-r_17) then 60 else (-r_17)))), (6, .long (r_28 &&& ((jlshl 1 (if 60 < (-r_17) then 60 else (-r_17))) - 1))), (4, .long r_28), (3, .int (if 60 < (-r_17) then 60 else (-r_17))), (0, .long x0), (2, .int x2)]) hx hb d_H_wholeNear_47 hl (by decide) rfl (fun ls hl => ?_)
      refine lv_lload_n hx hb d_H_wholeNear_49 rfl (lv_at hl 4 rfl) ?_
      refine lv_lconst (v := 0) hx hb d_H_wholeNear_50 (by decide) ?_
      refine W.lcmp hx hb d_H_wholeNear_51 ?_
      refine lv_if_ge (tgt := 59) hx hb d_H_wholeNear_52 (by decide) (fun c_52 => ?_) (fun c_52 => ?_)
      · have hf := (zbr hf).2 (zc_ge.mp c_52)
        refine lv_iconst (v := 0) hx hb d_H_wholeNear_59 (by decide) ?_
        exact b_60 x0 x2 (if 60 < (-r_17) then 60 else (-r_17)) (r_28 &&& ((jlshl 1 (if 60 < (-r_17) then 60 else (-r_17))) - 1)) (jlushr r_28 (if 60 < (-r_17) then 60 else (-r_17))) 0 H locs ls hf hP hD hS (lv_sub hl [4, 5, 3, 1, 0] rfl)
      · have hf := (zbr hf).1 (zc_nge c_52)
        refine lv_iconst (v := 1) hx hb d_H_wholeNear_55 (by decide) ?_
        refine lv_goto (tgt := 60) hx hb d_H_wholeNear_56 (by decide) ?_
        exact b_60 x0 x2 (if 60 < (-r_17) then 60 else (-r_17)) (r_28 &&& ((jlshl 1 (if 60 < (-r_17) then 60 else (-r_17))) - 1)) (jlushr r_28 (if 60 < (-r_17) then 60 else (-r_17))) 1 H locs ls hf hP hD hS (lv_sub hl [4, 5, 3, 1, 0] rfl)
    · have hf := (zbr hf).2 c_11
      refine lv_lload_n hx hb d_H_wholeNear_14 rfl (lv_at hl 0 rfl) ?_
      exact hret (x0) () H locs ls _ d_H_wholeNear_15 hP hD hS (Option.some.inj hf)
theorem d_H_lowBits_0 : decode c_H_lowBits 0 = .ok (.lload_n 0, 1) := by decide +kernel
theorem d_H_lowBits_1 : decode c_H_lowBits 1 = .ok (.invokestatic 13, 3) := by decide +kernel
theorem d_H_lowBits_4 : decode c_H_lowBits 4 = .ok (.istore_n 2, 1) := by decide +kernel
theorem d_H_lowBits_5 : decode c_H_lowBits 5 = .ok (.lload_n 0, 1) := by decide +kernel
theorem d_H_lowBits_6 : decode c_H_lowBits 6 = .ok (.invokestatic 39, 3) := by decide +kernel
theorem d_H_lowBits_9 : decode c_H_lowBits 9 = .ok (.ldc2_w 42, 3) := by decide +kernel
theorem d_H_lowBits_12 : decode c_H_lowBits 12 = .ok (.lcmp, 1) := by decide +kernel
theorem d_H_lowBits_13 : decode c_H_lowBits 13 = .ok (.ifCond .ge 15, 3) := by decide +kernel
theorem d_H_lowBits_16 : decode c_H_lowBits 16 = .ok (.iload_n 2, 1) := by decide +kernel
theorem d_H_lowBits_17 : decode c_H_lowBits 17 = .ok (.bipush 32, 2) := by decide +kernel
theorem d_H_lowBits_19 : decode c_H_lowBits 19 = .ok (.if_icmp .ge 9, 3) := by decide +kernel
theorem d_H_lowBits_22 : decode c_H_lowBits 22 = .ok (.iload_n 2, 1) := by decide +kernel
theorem d_H_lowBits_23 : decode c_H_lowBits 23 = .ok (.bipush (-53), 2) := by decide +kernel
theorem d_H_lowBits_25 : decode c_H_lowBits 25 = .ok (.if_icmp .gt 5, 3) := by decide +kernel
theorem d_H_lowBits_28 : decode c_H_lowBits 28 = .ok (.lconst 0, 1) := by decide +kernel
theorem d_H_lowBits_29 : decode c_H_lowBits 29 = .ok (.lreturn, 1) := by decide +kernel
theorem d_H_lowBits_30 : decode c_H_lowBits 30 = .ok (.lload_n 0, 1) := by decide +kernel
theorem d_H_lowBits_31 : decode c_H_lowBits 31 = .ok (.invokestatic 25, 3) := by decide +kernel
theorem d_H_lowBits_34 : decode c_H_lowBits 34 = .ok (.lstore_n 3, 1) := by decide +kernel
theorem d_H_lowBits_35 : decode c_H_lowBits 35 = .ok (.iload_n 2, 1) := by decide +kernel
theorem d_H_lowBits_36 : decode c_H_lowBits 36 = .ok (.ifCond .lt 9, 3) := by decide +kernel
theorem d_H_lowBits_39 : decode c_H_lowBits 39 = .ok (.lload_n 3, 1) := by decide +kernel
theorem d_H_lowBits_40 : decode c_H_lowBits 40 = .ok (.iload_n 2, 1) := by decide +kernel
theorem d_H_lowBits_41 : decode c_H_lowBits 41 = .ok (.lshl, 1) := by decide +kernel
theorem d_H_lowBits_42 : decode c_H_lowBits 42 = .ok (.goto 7, 3) := by decide +kernel
theorem d_H_lowBits_45 : decode c_H_lowBits 45 = .ok (.lload_n 3, 1) := by decide +kernel
theorem d_H_lowBits_46 : decode c_H_lowBits 46 = .ok (.iload_n 2, 1) := by decide +kernel
theorem d_H_lowBits_47 : decode c_H_lowBits 47 = .ok (.ineg, 1) := by decide +kernel
theorem d_H_lowBits_48 : decode c_H_lowBits 48 = .ok (.lushr, 1) := by decide +kernel
theorem d_H_lowBits_49 : decode c_H_lowBits 49 = .ok (.lstore 5, 2) := by decide +kernel
theorem d_H_lowBits_51 : decode c_H_lowBits 51 = .ok (.lload_n 0, 1) := by decide +kernel
theorem d_H_lowBits_52 : decode c_H_lowBits 52 = .ok (.lconst 0, 1) := by decide +kernel
theorem d_H_lowBits_53 : decode c_H_lowBits 53 = .ok (.lcmp, 1) := by decide +kernel
theorem d_H_lowBits_54 : decode c_H_lowBits 54 = .ok (.ifCond .ge 9, 3) := by decide +kernel
theorem d_H_lowBits_57 : decode c_H_lowBits 57 = .ok (.lload 5, 2) := by decide +kernel
theorem d_H_lowBits_59 : decode c_H_lowBits 59 = .ok (.lneg, 1) := by decide +kernel
theorem d_H_lowBits_60 : decode c_H_lowBits 60 = .ok (.goto 5, 3) := by decide +kernel
theorem d_H_lowBits_63 : decode c_H_lowBits 63 = .ok (.lload 5, 2) := by decide +kernel
theorem d_H_lowBits_65 : decode c_H_lowBits 65 = .ok (.lreturn, 1) := by decide +kernel
theorem zn_H_39 : zNS R_H 39 y_B_magnitude c_B_magnitude 2 (some .long) 1 := ⟨zco_B_magnitude, zin_B, zml_H_39, zst_B_magnitude, by decide +kernel⟩
set_option maxHeartbeats 4000000 in
set_option maxRecDepth 100000 in
theorem k_H_lowBits (κ : zC) (X : zXT) (hX : zX κ X) (l : Launch) (sz : Nat) (x0 : Int64) (out : Int64) (hf : f_H_lowBits x0 = some out) : zMet κ X l y_H_lowBits c_H_lowBits 7 (some .long) 2 43 [.long x0] sz [] (zQl κ (fun (r : Int64) (_ : Unit) => r = out) (fun u => [])) := by
  refine zMet.ofL (by decide +kernel) (Nat.le_of_ble_eq_true rfl) ?_
  intro p e s m args below meth c ls A Q hF hK hP hD hA hXs hS hl hret
  obtain ⟨hx, hb, hml, hown, hts⟩ := id hF
  obtain ⟨H, hH⟩ : ∃ H, H = s.heap := ⟨_, rfl⟩
  obtain ⟨locs, hlo⟩ : ∃ z : List Loc, z = [] := ⟨_, rfl⟩
  replace hP : zP κ [] H := by rw [hH]; exact hP
  replace hS : va_S A s.heap H locs := by rw [hH, hlo]; exact hS
  suffices hgo : W p l e (zR 2 43) s m args below meth c H locs 0 0 Q (F0 m 0 ls []) by rw [hH, hlo] at hgo; exact hgo
  clear hH hlo
  replace hl : lv_has ls 7 [(0, .long x0)] := hl
  have b_49 : ∀ (x0 : Int64) (s0 : Int64) (H : Heap) (locs : List Loc) (ls : Array Slot), f_H_lowBits_49 x0 s0 = some out → zP κ [] H → va_D A [] → va_S A s.heap H locs → lv_has ls 7 [(0, .long x0)] → W p l e (zR 2 43) s m args below meth c H locs 0 0 Q (F0 m 49 ls [.long s0]) := by
    intro x0 s0 H locs ls hf hP hD hS hl
    unfold f_H_lowBits_49 at hf
    refine lv_lstore (lv' := [(5, .long s0), (0, .long x0)]) hx hb d_H_lowBits_49 hl (by decide) rfl (fun ls hl => ?_)
    refine lv_lload_n hx hb d_H_lowBits_51 rfl (lv_at hl 1 rfl) ?_
    refine lv_lconst (v := 0) hx hb d_H_lowBits_52 (by decide) ?_
    refine W.lcmp hx hb d_H_lowBits_53 ?_
    refine lv_if_ge (tgt := 63) hx hb d_H_lowBits_54 (by decide) (fun c_54 => ?_) (fun c_54 => ?_)
    · have hf := (zbr hf).2 (zc_ge.mp c_54)
      refine lv_lload hx hb d_H_lowBits_63 (lv_at hl 0 rfl) ?_
      exact hret (s0) () H locs ls _ d_H_lowBits_65 hP hD hS (Option.some.inj hf)
    · have hf := (zbr hf).1 (zc_nge c_54)
      refine lv_lload hx hb d_H_lowBits_57 (lv_at hl 0 rfl) ?_
      refine lv_lneg hx hb d_H_lowBits_59 ?_
      refine lv_goto (tgt := 65) hx hb d_H_lowBits_60 (by decide) ?_
      exact hret ((-s0)) () H locs ls _ d_H_lowBits_65 hP hD hS (Option.some.inj hf)
  unfold f_H_lowBits at hf
  refine lv_lload_n hx hb d_H_lowBits_0 rfl (lv_at hl 0 rfl) ?_
  obtain ⟨o_1, ho_1, hf⟩ := zbd hf
  refine zSi (isC := []) (isR := []) (isN := []) (wc := []) (wr := []) (wn := fun u => []) (rest := []) (As := [.long x0]) hF zn_H_13 (k_B_exponent κ X hX l H.size x0 o_1 ho_1) hX hXs hK hA hP hD hS ⟨by decide, by decide⟩ ⟨rfl, rfl, rfl, rfl, rfl, by decide⟩ ⟨rfl, fun _ => rfl, fun _ => rfl⟩ rfl hl.1 rfl (Nat.le_of_ble_eq_true rfl) ⟨Nat.zero_le _, Nat.zero_le _⟩ d_H_lowBits_1 (fun r_1 u H locs hw hP hD hS => ?_)
  subst hw
  refine lv_istore_n (lv' := [(2, .int r_1), (0, .long x0)]) hx hb d_H_lowBits_4 rfl hl (by decide) rfl (fun ls hl => ?_)
  refine lv_lload_n hx hb d_H_lowBits_5 rfl (lv_at hl 1 rfl) ?_
  obtain ⟨o_6, ho_6, hf⟩ := zbd hf
  refine zSl (isC := []) (isR := []) (isN := []) (wc := []) (wr := []) (wn := fun u => []) (rest := []) (As := [.long x0]) hF zn_H_39 (k_B_magnitude κ X hX l H.size x0 o_6 ho_6) hX hXs hK hA hP hD hS ⟨by decide, by decide⟩ ⟨rfl, rfl, rfl, rfl, rfl, by decide⟩ ⟨rfl, fun _ => rfl, fun _ => rfl⟩ rfl hl.1 rfl (Nat.le_of_ble_eq_true rfl) ⟨Nat.zero_le _, Nat.zero_le _⟩ d_H_lowBits_6 (fun r_6 u H locs hw hP hD hS => ?_)
  subst hw
  refine lv_ldc2 (v := 9218868437227405312) hx hb hown (hts _ zkl_H_42) d_H_lowBits_9 ?_
  refine W.lcmp hx hb d_H_lowBits_12 ?_
  refine lv_if_ge (tgt := 28) hx hb d_H_lowBits_13 (by decide) (fun c_13 => ?_) (fun c_13 => ?_)
  · have hf := (zbr hf).2 (zc_ge.mp c_13)
    refine lv_lconst (v := 0) hx hb d_H_lowBits_28 (by decide) ?_
    exact hret ((0 : Int64)) () H locs ls _ d_H_lowBits_29 hP hD hS (Option.some.inj hf)
  · have hf := (zbr hf).1 (zc_nge c_13)
    refine lv_iload_n hx hb d_H_lowBits_16 rfl (lv_at hl 0 rfl) ?_
    refine lv_bipush (v := 32) hx hb d_H_lowBits_17 (by decide) ?_
    refine lv_icmp_ge (tgt := 28) hx hb d_H_lowBits_19 (by decide) (fun c_19 => ?_) (fun c_19 => ?_)
    · have hf := (zbr hf).1 c_19
      refine lv_lconst (v := 0) hx hb d_H_lowBits_28 (by decide) ?_
      exact hret ((0 : Int64)) () H locs ls _ d_H_lowBits_29 hP hD hS (Option.some.inj hf)
    · have hf := (zbr hf).2 c_19
      refine lv_iload_n hx hb d_H_lowBits_22 rfl (lv_at hl 0 rfl) ?_
      refine lv_bipush (v := (-53)) hx hb d_H_lowBits_23 (by decide) ?_
      refine lv_icmp_gt (tgt := 30) hx hb d_H_lowBits_25 (by decide) (fun c_25 => ?_) (fun c_25 => ?_)
      · have hf := (zbr hf).1 c_25
        refine lv_lload_n hx hb d_H_lowBits_30 rfl (lv_at hl 1 rfl) ?_
        obtain ⟨o_31, ho_31, hf⟩ := zbd hf
        refine zSl (isC := []) (isR := []) (isN := []) (wc := []) (wr := []) (wn := fun u => []) (rest := []) (As := [.long x0]) hF zn_H_25 (k_B_mantissa κ X hX l H.size x0 o_31 ho_31) hX hXs hK hA hP hD hS ⟨by decide, by decide⟩ ⟨rfl, rfl, rfl, rfl, rfl, by decide⟩ ⟨rfl, fun _ => rfl, fun _ => rfl⟩ rfl hl.1 rfl (Nat.le_of_ble_eq_true rfl) ⟨Nat.zero_le _, Nat.zero_le _⟩ d_H_lowBits_31 (fun r_31 u H locs hw hP hD hS => ?_)
        subst hw
        refine lv_lstore_n (lv' := [(3, .long r_31), (2, .int r_1), (0, .long x0)]) hx hb d_H_lowBits_34 rfl hl (by decide) rfl (fun ls hl => ?_)
        refine lv_iload_n hx hb d_H_lowBits_35 rfl (lv_at hl 1 rfl) ?_
        refine lv_if_lt (tgt := 45) hx hb d_H_lowBits_36 (by decide) (fun c_36 => ?_) (fun c_36 => ?_)
        · have hf := (zbr hf).1 c_36
          refine lv_lload_n hx hb d_H_lowBits_45 rfl (lv_at hl 0 rfl) ?_
          refine lv_iload_n hx hb d_H_lowBits_46 rfl (lv_at hl 1 rfl) ?_
          refine lv_ineg hx hb d_H_lowBits_47 ?_
          refine lv_lushr (v := (jlushr r_31 (-r_1))) hx hb d_H_lowBits_48 rfl ?_
          exact b_49 x0 (jlushr r_31 (-r_1)) H locs ls hf hP hD hS (lv_sub hl [2] rfl)
        · have hf := (zbr hf).2 c_36
          refine lv_lload_n hx hb d_H_lowBits_39 rfl (lv_at hl 0 rfl) ?_
          refine lv_iload_n hx hb d_H_lowBits_40 rfl (lv_at hl 1 rfl) ?_
          refine lv_lshl (v := (jlshl r_31 r_1)) hx hb d_H_lowBits_41 rfl ?_
          refine lv_goto (tgt := 49) hx hb d_H_lowBits_42 (by decide) ?_
          exact b_49 x0 (jlshl r_31 r_1) H locs ls hf hP hD hS (lv_sub hl [2] rfl)
      · have hf := (zbr hf).2 c_25
        refine lv_lconst (v := 0) hx hb d_H_lowBits_28 (by decide) ?_
        exact hret ((0 : Int64)) () H locs ls _ d_H_lowBits_29 hP hD hS (Option.some.inj hf)
