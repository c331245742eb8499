theorem d_B_magnitude_0 : decode c_B_magnitude 0 = .ok (.lload_n 0, 1) := by decide +kernel
theorem d_B_magnitude_1 : decode c_B_magnitude 1 = .ok (.ldc2_w 9, 3) := by decide +kernel
theorem d_B_magnitude_4 : decode c_B_magnitude 4 = .ok (.land, 1) := by decide +kernel
theorem d_B_magnitude_5 : decode c_B_magnitude 5 = .ok (.lreturn, 1) := by decide +kernel
set_option maxHeartbeats 4000000 in
set_option maxRecDepth 100000 in
theorem k_B_magnitude (κ : zC) (X : zXT) (hX : zX κ X) (l : Launch) (sz : Nat) (x0 : Int64) (out : Int64) (hf : f_B_magnitude x0 = some out) : zMet κ X l y_B_magnitude c_B_magnitude 2 (some .long) 0 0 [.long x0] sz [] (zQl κ (fun (r : Int64) (_ : Unit) => r = out) (fun u => [])) := by
  refine zMet.ofL (by decide +kernel) (Nat.le_of_ble_eq_true rfl) ?_
  intro p e s m args below meth c ls A Q hF hK hP hD hA hXs hS hl hret
  obtain ⟨hx, hb, hml, hown, hts⟩ := id hF
  obtain ⟨H, hH⟩ : ∃ H, H = s.heap := ⟨_, rfl⟩
  obtain ⟨locs, hlo⟩ : ∃ z : List Loc, z = [] := ⟨_, rfl⟩
  replace hP : zP κ [] H := by rw [hH]; exact hP
  replace hS : va_S A s.heap H locs := by rw [hH, hlo]; exact hS
  suffices hgo : W p l e (zR 0 0) s m args below meth c H locs 0 0 Q (F0 m 0 ls []) by rw [hH, hlo] at hgo; exact hgo
  clear hH hlo
  replace hl : lv_has ls 2 [(0, .long x0)] := hl
  unfold f_B_magnitude at hf
  refine lv_lload_n hx hb d_B_magnitude_0 rfl (lv_at hl 0 rfl) ?_
  refine lv_ldc2 (v := 9223372036854775807) hx hb hown (hts _ zkl_B_9) d_B_magnitude_1 ?_
  refine lv_land hx hb d_B_magnitude_4 ?_
  exact hret ((x0 &&& 9223372036854775807)) () H locs ls _ d_B_magnitude_5 hP hD hS (Option.some.inj hf)
theorem d_B_isNan_0 : decode c_B_isNan 0 = .ok (.lload_n 0, 1) := by decide +kernel
theorem d_B_isNan_1 : decode c_B_isNan 1 = .ok (.invokestatic 11, 3) := by decide +kernel
theorem d_B_isNan_4 : decode c_B_isNan 4 = .ok (.ldc2_w 15, 3) := by decide +kernel
theorem d_B_isNan_7 : decode c_B_isNan 7 = .ok (.lcmp, 1) := by decide +kernel
theorem d_B_isNan_8 : decode c_B_isNan 8 = .ok (.ifCond .le 7, 3) := by decide +kernel
theorem d_B_isNan_11 : decode c_B_isNan 11 = .ok (.iconst 1, 1) := by decide +kernel
theorem d_B_isNan_12 : decode c_B_isNan 12 = .ok (.goto 4, 3) := by decide +kernel
theorem d_B_isNan_15 : decode c_B_isNan 15 = .ok (.iconst 0, 1) := by decide +kernel
theorem d_B_isNan_16 : decode c_B_isNan 16 = .ok (.ireturn, 1) := by decide +kernel
theorem zn_B_11 : zNS R_B 11 y_B_magnitude c_B_magnitude 2 (some .long) 1 := ⟨zco_B_magnitude, zin_B, zml_B_11, zst_B_magnitude, by decide +kernel⟩
set_option maxHeartbeats 4000000 in
set_option maxRecDepth 100000 in
theorem k_B_isNan (κ : zC) (X : zXT) (hX : zX κ X) (l : Launch) (sz : Nat) (x0 : Int64) (out : Int32) (hf : f_B_isNan x0 = some out) : zMet κ X l y_B_isNan c_B_isNan 2 (some .boolean) 1 21 [.long x0] sz [] (zQi κ (fun (r : Int32) (_ : Unit) => r = out) (fun u => [])) := by
  refine zMet.ofZ (by decide +kernel) (Nat.le_of_ble_eq_true rfl) ?_
  intro p e s m args below meth c ls A Q hF hK hP hD hA hXs hS hl hret
  obtain ⟨hx, hb, hml, hown, hts⟩ := id hF
  obtain ⟨H, hH⟩ : ∃ H, H = s.heap := ⟨_, rfl⟩
  obtain ⟨locs, hlo⟩ : ∃ z : List Loc, z = [] := ⟨_, rfl⟩
  replace hP : zP κ [] H := by rw [hH]; exact hP
  replace hS : va_S A s.heap H locs := by rw [hH, hlo]; exact hS
  suffices hgo : W p l e (zR 1 21) s m args below meth c H locs 0 0 Q (F0 m 0 ls []) by rw [hH, hlo] at hgo; exact hgo
  clear hH hlo
  replace hl : lv_has ls 2 [(0, .long x0)] := hl
  unfold f_B_isNan at hf
  refine lv_lload_n hx hb d_B_isNan_0 rfl (lv_at hl 0 rfl) ?_
  obtain ⟨o_1, ho_1, hf⟩ := zbd hf
  refine zSl (isC := []) (isR := []) (isN := []) (wc := []) (wr := []) (wn := fun u => []) (rest := []) (As := [.long x0]) hF zn_B_11 (k_B_magnitude κ X hX l H.size x0 o_1 ho_1) hX hXs hK hA hP hD hS ⟨by decide, by decide⟩ ⟨rfl, rfl, rfl, rfl, rfl, by decide⟩ ⟨rfl, fun _ => rfl, fun _ => rfl⟩ rfl hl.1 rfl (Nat.le_of_ble_eq_true rfl) ⟨Nat.zero_le _, Nat.zero_le _⟩ d_B_isNan_1 (fun r_1 u H locs hw hP hD hS => ?_)
  subst hw
  refine lv_ldc2 (v := 9218868437227405312) hx hb hown (hts _ zkl_B_15) d_B_isNan_4 ?_
  refine W.lcmp hx hb d_B_isNan_7 ?_
  refine lv_if_le (tgt := 15) hx hb d_B_isNan_8 (by decide) (fun c_8 => ?_) (fun c_8 => ?_)
  · have hf := (zbr hf).2 (zc_le.mp c_8)
    refine lv_iconst (v := 0) hx hb d_B_isNan_15 (by decide) ?_
    exact hret ((0 : Int32)) () H locs ls _ d_B_isNan_16 hP hD hS (by decide) (Option.some.inj hf)
  · have hf := (zbr hf).1 (zc_nle c_8)
    refine lv_iconst (v := 1) hx hb d_B_isNan_11 (by decide) ?_
    refine lv_goto (tgt := 16) hx hb d_B_isNan_12 (by decide) ?_
    exact hret ((1 : Int32)) () H locs ls _ d_B_isNan_16 hP hD hS (by decide) (Option.some.inj hf)
theorem d_B_isInfinite_0 : decode c_B_isInfinite 0 = .ok (.lload_n 0, 1) := by decide +kernel
theorem d_B_isInfinite_1 : decode c_B_isInfinite 1 = .ok (.invokestatic 11, 3) := by decide +kernel
theorem d_B_isInfinite_4 : decode c_B_isInfinite 4 = .ok (.ldc2_w 15, 3) := by decide +kernel
theorem d_B_isInfinite_7 : decode c_B_isInfinite 7 = .ok (.lcmp, 1) := by decide +kernel
theorem d_B_isInfinite_8 : decode c_B_isInfinite 8 = .ok (.ifCond .ne 7, 3) := by decide +kernel
theorem d_B_isInfinite_11 : decode c_B_isInfinite 11 = .ok (.iconst 1, 1) := by decide +kernel
theorem d_B_isInfinite_12 : decode c_B_isInfinite 12 = .ok (.goto 4, 3) := by decide +kernel
theorem d_B_isInfinite_15 : decode c_B_isInfinite 15 = .ok (.iconst 0, 1) := by decide +kernel
theorem d_B_isInfinite_16 : decode c_B_isInfinite 16 = .ok (.ireturn, 1) := by decide +kernel
set_option maxHeartbeats 4000000 in
set_option maxRecDepth 100000 in
theorem k_B_isInfinite (κ : zC) (X : zXT) (hX : zX κ X) (l : Launch) (sz : Nat) (x0 : Int64) (out : Int32) (hf : f_B_isInfinite x0 = some out) : zMet κ X l y_B_isInfinite c_B_isInfinite 2 (some .boolean) 1 21 [.long x0] sz [] (zQi κ (fun (r : Int32) (_ : Unit) => r = out) (fun u => [])) := by
  refine zMet.ofZ (by decide +kernel) (Nat.le_of_ble_eq_true rfl) ?_
  intro p e s m args below meth c ls A Q hF hK hP hD hA hXs hS hl hret
  obtain ⟨hx, hb, hml, hown, hts⟩ := id hF
  obtain ⟨H, hH⟩ : ∃ H, H = s.heap := ⟨_, rfl⟩
  obtain ⟨locs, hlo⟩ : ∃ z : List Loc, z = [] := ⟨_, rfl⟩
  replace hP : zP κ [] H := by rw [hH]; exact hP
  replace hS : va_S A s.heap H locs := by rw [hH, hlo]; exact hS
  suffices hgo : W p l e (zR 1 21) s m args below meth c H locs 0 0 Q (F0 m 0 ls []) by rw [hH, hlo] at hgo; exact hgo
  clear hH hlo
  replace hl : lv_has ls 2 [(0, .long x0)] := hl
  unfold f_B_isInfinite at hf
  refine lv_lload_n hx hb d_B_isInfinite_0 rfl (lv_at hl 0 rfl) ?_
  obtain ⟨o_1, ho_1, hf⟩ := zbd hf
  refine zSl (isC := []) (isR := []) (isN := []) (wc := []) (wr := []) (wn := fun u => []) (rest := []) (As := [.long x0]) hF zn_B_11 (k_B_magnitude κ X hX l H.size x0 o_1 ho_1) hX hXs hK hA hP hD hS ⟨by decide, by decide⟩ ⟨rfl, rfl, rfl, rfl, rfl, by decide⟩ ⟨rfl, fun _ => rfl, fun _ => rfl⟩ rfl hl.1 rfl (Nat.le_of_ble_eq_true rfl) ⟨Nat.zero_le _, Nat.zero_le _⟩ d_B_isInfinite_1 (fun r_1 u H locs hw hP hD hS => ?_)
  subst hw
  refine lv_ldc2 (v := 9218868437227405312) hx hb hown (hts _ zkl_B_15) d_B_isInfinite_4 ?_
  refine W.lcmp hx hb d_B_isInfinite_7 ?_
  refine lv_if_ne (tgt := 15) hx hb d_B_isInfinite_8 (by decide) (fun c_8 => ?_) (fun c_8 => ?_)
  · have hf := (zbr hf).2 (zc_neq c_8)
    refine lv_iconst (v := 0) hx hb d_B_isInfinite_15 (by decide) ?_
    exact hret ((0 : Int32)) () H locs ls _ d_B_isInfinite_16 hP hD hS (by decide) (Option.some.inj hf)
  · have hf := (zbr hf).1 (zc_eq.mp c_8)
    refine lv_iconst (v := 1) hx hb d_B_isInfinite_11 (by decide) ?_
    refine lv_goto (tgt := 16) hx hb d_B_isInfinite_12 (by decide) ?_
    exact hret ((1 : Int32)) () H locs ls _ d_B_isInfinite_16 hP hD hS (by decide) (Option.some.inj hf)
theorem d_B_isZero_0 : decode c_B_isZero 0 = .ok (.lload_n 0, 1) := by decide +kernel
theorem d_B_isZero_1 : decode c_B_isZero 1 = .ok (.invokestatic 11, 3) := by decide +kernel
theorem d_B_isZero_4 : decode c_B_isZero 4 = .ok (.lconst 0, 1) := by decide +kernel
theorem d_B_isZero_5 : decode c_B_isZero 5 = .ok (.lcmp, 1) := by decide +kernel
theorem d_B_isZero_6 : decode c_B_isZero 6 = .ok (.ifCond .ne 7, 3) := by decide +kernel
theorem d_B_isZero_9 : decode c_B_isZero 9 = .ok (.iconst 1, 1) := by decide +kernel
theorem d_B_isZero_10 : decode c_B_isZero 10 = .ok (.goto 4, 3) := by decide +kernel
theorem d_B_isZero_13 : decode c_B_isZero 13 = .ok (.iconst 0, 1) := by decide +kernel
theorem d_B_isZero_14 : decode c_B_isZero 14 = .ok (.ireturn, 1) := by decide +kernel
set_option maxHeartbeats 4000000 in
set_option maxRecDepth 100000 in
theorem k_B_isZero (κ : zC) (X : zXT) (hX : zX κ X) (l : Launch) (sz : Nat) (x0 : Int64) (out : Int32) (hf : f_B_isZero x0 = some out) : zMet κ X l y_B_isZero c_B_isZero 2 (some .boolean) 1 21 [.long x0] sz [] (zQi κ (fun (r : Int32) (_ : Unit) => r = out) (fun u => [])) := by
  refine zMet.ofZ (by decide +kernel) (Nat.le_of_ble_eq_true rfl) ?_
  intro p e s m args below meth c ls A Q hF hK hP hD hA hXs hS hl hret
  obtain ⟨hx, hb, hml, hown, hts⟩ := id hF
  obtain ⟨H, hH⟩ : ∃ H, H = s.heap := ⟨_, rfl⟩
  obtain ⟨locs, hlo⟩ : ∃ z : List Loc, z = [] := ⟨_, rfl⟩
  replace hP : zP κ [] H := by rw [hH]; exact hP
  replace hS : va_S A s.heap H locs := by rw [hH, hlo]; exact hS
  suffices hgo : W p l e (zR 1 21) s m args below meth c H locs 0 0 Q (F0 m 0 ls []) by rw [hH, hlo] at hgo; exact hgo
  clear hH hlo
  replace hl : lv_has ls 2 [(0, .long x0)] := hl
  unfold f_B_isZero at hf
  refine lv_lload_n hx hb d_B_isZero_0 rfl (lv_at hl 0 rfl) ?_
  obtain ⟨o_1, ho_1, hf⟩ := zbd hf
  refine zSl (isC := []) (isR := []) (isN := []) (wc := []) (wr := []) (wn := fun u => []) (rest := []) (As := [.long x0]) hF zn_B_11 (k_B_magnitude κ X hX l H.size x0 o_1 ho_1) hX hXs hK hA hP hD hS ⟨by decide, by decide⟩ ⟨rfl, rfl, rfl, rfl, rfl, by decide⟩ ⟨rfl, fun _ => rfl, fun _ => rfl⟩ rfl hl.1 rfl (Nat.le_of_ble_eq_true rfl) ⟨Nat.zero_le _, Nat.zero_le _⟩ d_B_isZero_1 (fun r_1 u H locs hw hP hD hS => ?_)
  subst hw
  refine lv_lconst (v := 0) hx hb d_B_isZero_4 (by decide) ?_
  refine W.lcmp hx hb d_B_isZero_5 ?_
  refine lv_if_ne (tgt := 13) hx hb d_B_isZero_6 (by decide) (fun c_6 => ?_) (fun c_6 => ?_)
  · have hf := (zbr hf).2 (zc_neq c_6)
    refine lv_iconst (v := 0) hx hb d_B_isZero_13 (by decide) ?_
    exact hret ((0 : Int32)) () H locs ls _ d_B_isZero_14 hP hD hS (by decide) (Option.some.inj hf)
  · have hf := (zbr hf).1 (zc_eq.mp c_6)
    refine lv_iconst (v := 1) hx hb d_B_isZero_9 (by decide) ?_
    refine lv_goto (tgt := 14) hx hb d_B_isZero_10 (by decide) ?_
    exact hret ((1 : Int32)) () H locs ls _ d_B_isZero_14 hP hD hS (by decide) (Option.some.inj hf)
theorem d_B_place_0 : decode c_B_place 0 = .ok (.lload_n 0, 1) := by decide +kernel
theorem d_B_place_1 : decode c_B_place 1 = .ok (.lconst 0, 1) := by decide +kernel
theorem d_B_place_2 : decode c_B_place 2 = .ok (.lcmp, 1) := by decide +kernel
theorem d_B_place_3 : decode c_B_place 3 = .ok (.ifCond .lt 7, 3) := by decide +kernel
theorem d_B_place_6 : decode c_B_place 6 = .ok (.lload_n 0, 1) := by decide +kernel
theorem d_B_place_7 : decode c_B_place 7 = .ok (.goto 8, 3) := by decide +kernel
theorem d_B_place_10 : decode c_B_place 10 = .ok (.lload_n 0, 1) := by decide +kernel
theorem d_B_place_11 : decode c_B_place 11 = .ok (.invokestatic 11, 3) := by decide +kernel
theorem d_B_place_14 : decode c_B_place 14 = .ok (.lneg, 1) := by decide +kernel
theorem d_B_place_15 : decode c_B_place 15 = .ok (.lreturn, 1) := by decide +kernel
set_option maxHeartbeats 4000000 in
set_option maxRecDepth 100000 in
theorem k_B_place (κ : zC) (X : zXT) (hX : zX κ X) (l : Launch) (sz : Nat) (x0 : Int64) (out : Int64) (hf : f_B_place x0 = some out) : zMet κ X l y_B_place c_B_place 2 (some .long) 1 21 [.long x0] sz [] (zQl κ (fun (r : Int64) (_ : Unit) => r = out) (fun u => [])) := by
  refine zMet.ofL (by decide +kernel) (Nat.le_of_ble_eq_true rfl) ?_
  intro p e s m args below meth c ls A Q hF hK hP hD hA hXs hS hl hret
  obtain ⟨hx, hb, hml, hown, hts⟩ := id hF
  obtain ⟨H, hH⟩ : ∃ H, H = s.heap := ⟨_, rfl⟩
  obtain ⟨locs, hlo⟩ : ∃ z : List Loc, z = [] := ⟨_, rfl⟩
  replace hP : zP κ [] H := by rw [hH]; exact hP
  replace hS : va_S A s.heap H locs := by rw [hH, hlo]; exact hS
  suffices hgo : W p l e (zR 1 21) s m args below meth c H locs 0 0 Q (F0 m 0 ls []) by rw [hH, hlo] at hgo; exact hgo
  clear hH hlo
  replace hl : lv_has ls 2 [(0, .long x0)] := hl
  unfold f_B_place at hf
  refine lv_lload_n hx hb d_B_place_0 rfl (lv_at hl 0 rfl) ?_
  refine lv_lconst (v := 0) hx hb d_B_place_1 (by decide) ?_
  refine W.lcmp hx hb d_B_place_2 ?_
  refine lv_if_lt (tgt := 10) hx hb d_B_place_3 (by decide) (fun c_3 => ?_) (fun c_3 => ?_)
  · have hf := (zbr hf).1 (zc_lt.mp c_3)
    refine lv_lload_n hx hb d_B_place_10 rfl (lv_at hl 0 rfl) ?_
    obtain ⟨o_11, ho_11, hf⟩ := zbd hf
    refine zSl (isC := []) (isR := []) (isN := []) (wc := []) (wr := []) (wn := fun u => []) (rest := []) (As := [.long x0]) hF zn_B_11 (k_B_magnitude κ X hX l H.size x0 o_11 ho_11) hX hXs hK hA hP hD hS ⟨by decide, by decide⟩ ⟨rfl, rfl, rfl, rfl, rfl, by decide⟩ ⟨rfl, fun _ => rfl, fun _ => rfl⟩ rfl hl.1 rfl (Nat.le_of_ble_eq_true rfl) ⟨Nat.zero_le _, Nat.zero_le _⟩ d_B_place_11 (fun r_11 u H locs hw hP hD hS => ?_)
    subst hw
    refine lv_lneg hx hb d_B_place_14 ?_
    exact hret ((-r_11)) () H locs ls _ d_B_place_15 hP hD hS (Option.some.inj hf)
  · have hf := (zbr hf).2 (zc_nlt c_3)
    refine lv_lload_n hx hb d_B_place_6 rfl (lv_at hl 0 rfl) ?_
    refine lv_goto (tgt := 15) hx hb d_B_place_7 (by decide) ?_
    exact hret (x0) () H locs ls _ d_B_place_15 hP hD hS (Option.some.inj hf)
theorem d_B_mantissa_0 : decode c_B_mantissa 0 = .ok (.lload_n 0, 1) := by decide +kernel
theorem d_B_mantissa_1 : decode c_B_mantissa 1 = .ok (.ldc2_w 17, 3) := by decide +kernel
theorem d_B_mantissa_4 : decode c_B_mantissa 4 = .ok (.land, 1) := by decide +kernel
theorem d_B_mantissa_5 : decode c_B_mantissa 5 = .ok (.lstore_n 2, 1) := by decide +kernel
theorem d_B_mantissa_6 : decode c_B_mantissa 6 = .ok (.lload_n 0, 1) := by decide +kernel
theorem d_B_mantissa_7 : decode c_B_mantissa 7 = .ok (.ldc2_w 15, 3) := by decide +kernel
theorem d_B_mantissa_10 : decode c_B_mantissa 10 = .ok (.land, 1) := by decide +kernel
theorem d_B_mantissa_11 : decode c_B_mantissa 11 = .ok (.lconst 0, 1) := by decide +kernel
theorem d_B_mantissa_12 : decode c_B_mantissa 12 = .ok (.lcmp, 1) := by decide +kernel
theorem d_B_mantissa_13 : decode c_B_mantissa 13 = .ok (.ifCond .ne 7, 3) := by decide +kernel
theorem d_B_mantissa_16 : decode c_B_mantissa 16 = .ok (.lload_n 2, 1) := by decide +kernel
theorem d_B_mantissa_17 : decode c_B_mantissa 17 = .ok (.goto 8, 3) := by decide +kernel
theorem d_B_mantissa_20 : decode c_B_mantissa 20 = .ok (.lload_n 2, 1) := by decide +kernel
theorem d_B_mantissa_21 : decode c_B_mantissa 21 = .ok (.ldc2_w 19, 3) := by decide +kernel
theorem d_B_mantissa_24 : decode c_B_mantissa 24 = .ok (.lor, 1) := by decide +kernel
theorem d_B_mantissa_25 : decode c_B_mantissa 25 = .ok (.lreturn, 1) := by decide +kernel
set_option maxHeartbeats 4000000 in
set_option maxRecDepth 100000 in
theorem k_B_mantissa (κ : zC) (X : zXT) (hX : zX κ X) (l : Launch) (sz : Nat) (x0 : Int64) (out : Int64) (hf : f_B_mantissa x0 = some out) : zMet κ X l y_B_mantissa c_B_mantissa 4 (some .long) 0 0 [.long x0] sz [] (zQl κ (fun (r : Int64) (_ : Unit) => r = out) (fun u => [])) := by
  refine zMet.ofL (by decide +kernel) (Nat.le_of_ble_eq_true rfl) ?_
  intro p e s m args below meth c ls A Q hF hK hP hD hA hXs hS hl hret
  obtain ⟨hx, hb, hml, hown, hts⟩ := id hF
  obtain ⟨H, hH⟩ : ∃ H, H = s.heap := ⟨_, rfl⟩
  obtain ⟨locs, hlo⟩ : ∃ z : List Loc, z = [] := ⟨_, rfl⟩
  replace hP : zP κ [] H := by rw [hH]; exact hP
  replace hS : va_S A s.heap H locs := by rw [hH, hlo]; exact hS
  suffices hgo : W p l e (zR 0 0) s m args below meth c H locs 0 0 Q (F0 m 0 ls []) by rw [hH, hlo] at hgo; exact hgo
  clear hH hlo
  replace hl : lv_has ls 4 [(0, .long x0)] := hl
  unfold f_B_mantissa at hf
  refine lv_lload_n hx hb d_B_mantissa_0 rfl (lv_at hl 0 rfl) ?_
  refine lv_ldc2 (v := 4503599627370495) hx hb hown (hts _ zkl_B_17) d_B_mantissa_1 ?_
  refine lv_land hx hb d_B_mantissa_4 ?_
  refine lv_lstore_n (lv' := [(2, .long (x0 &&& 4503599627370495)), (0, .long x0)]) hx hb d_B_mantissa_5 rfl hl (by decide) rfl (fun ls hl => ?_)
  refine lv_lload_n hx hb d_B_mantissa_6 rfl (lv_at hl 1 rfl) ?_
  refine lv_ldc2 (v := 9218868437227405312) hx hb hown (hts _ zkl_B_15) d_B_mantissa_7 ?_
  refine lv_land hx hb d_B_mantissa_10 ?_
  refine lv_lconst (v := 0) hx hb d_B_mantissa_11 (by decide) ?_
  refine W.lcmp hx hb d_B_mantissa_12 ?_
  refine lv_if_ne (tgt := 20) hx hb d_B_mantissa_13 (by decide) (fun c_13 => ?_) (fun c_13 => ?_)
  · have hf := (zbr hf).2 (zc_neq c_13)
    refine lv_lload_n hx hb d_B_mantissa_20 rfl (lv_at hl 0 rfl) ?_
    refine lv_ldc2 (v := 4503599627370496) hx hb hown (hts _ zkl_B_19) d_B_mantissa_21 ?_
    refine lv_lor hx hb d_B_mantissa_24 ?_
    exact hret (((x0 &&& 4503599627370495) ||| 4503599627370496)) () H locs ls _ d_B_mantissa_25 hP hD hS (Option.some.inj hf)
  · have hf := (zbr hf).1 (zc_eq.mp c_13)
    refine lv_lload_n hx hb d_B_mantissa_16 rfl (lv_at hl 0 rfl) ?_
    refine lv_goto (tgt := 25) hx hb d_B_mantissa_17 (by decide) ?_
    exact hret ((x0 &&& 4503599627370495)) () H locs ls _ d_B_mantissa_25 hP hD hS (Option.some.inj hf)
theorem d_B_exponent_0 : decode c_B_exponent 0 = .ok (.lload_n 0, 1) := by decide +kernel
theorem d_B_exponent_1 : decode c_B_exponent 1 = .ok (.invokestatic 11, 3) := by decide +kernel
theorem d_B_exponent_4 : decode c_B_exponent 4 = .ok (.bipush 52, 2) := by decide +kernel
theorem d_B_exponent_6 : decode c_B_exponent 6 = .ok (.lushr, 1) := by decide +kernel
theorem d_B_exponent_7 : decode c_B_exponent 7 = .ok (.l2i, 1) := by decide +kernel
theorem d_B_exponent_8 : decode c_B_exponent 8 = .ok (.istore_n 2, 1) := by decide +kernel
theorem d_B_exponent_9 : decode c_B_exponent 9 = .ok (.iload_n 2, 1) := by decide +kernel
theorem d_B_exponent_10 : decode c_B_exponent 10 = .ok (.ifCond .ne 7, 3) := by decide +kernel
theorem d_B_exponent_13 : decode c_B_exponent 13 = .ok (.iconst 1, 1) := by decide +kernel
theorem d_B_exponent_14 : decode c_B_exponent 14 = .ok (.goto 4, 3) := by decide +kernel
theorem d_B_exponent_17 : decode c_B_exponent 17 = .ok (.iload_n 2, 1) := by decide +kernel
theorem d_B_exponent_18 : decode c_B_exponent 18 = .ok (.sipush 1075, 3) := by decide +kernel
theorem d_B_exponent_21 : decode c_B_exponent 21 = .ok (.isub, 1) := by decide +kernel
theorem d_B_exponent_22 : decode c_B_exponent 22 = .ok (.ireturn, 1) := by decide +kernel
set_option maxHeartbeats 4000000 in
set_option maxRecDepth 100000 in
theorem k_B_exponent (κ : zC) (X : zXT) (hX : zX κ X) (l : Launch) (sz : Nat) (x0 : Int64) (out : Int32) (hf : f_B_exponent x0 = some out) : zMet κ X l y_B_exponent c_B_exponent 3 (some .int) 1 21 [.long x0] sz [] (zQi κ (fun (r : Int32) (_ : Unit) => r = out) (fun u => [])) := by
  refine zMet.ofI (by decide +kernel) (Nat.le_of_ble_eq_true rfl) ?_
  intro p e s m args below meth c ls A Q hF hK hP hD hA hXs hS hl hret
  obtain ⟨hx, hb, hml, hown, hts⟩ := id hF
  obtain ⟨H, hH⟩ : ∃ H, H = s.heap := ⟨_, rfl⟩
  obtain ⟨locs, hlo⟩ : ∃ z : List Loc, z = [] := ⟨_, rfl⟩
  replace hP : zP κ [] H := by rw [hH]; exact hP
  replace hS : va_S A s.heap H locs := by rw [hH, hlo]; exact hS
  suffices hgo : W p l e (zR 1 21) s m args below meth c H locs 0 0 Q (F0 m 0 ls []) by rw [hH, hlo] at hgo; exact hgo
  clear hH hlo
  replace hl : lv_has ls 3 [(0, .long x0)] := hl
  unfold f_B_exponent at hf
  refine lv_lload_n hx hb d_B_exponent_0 rfl (lv_at hl 0 rfl) ?_
  obtain ⟨o_1, ho_1, hf⟩ := zbd hf
  refine zSl (isC := []) (isR := []) (isN := []) (wc := []) (wr := []) (wn := fun u => []) (rest := []) (As := [.long x0]) hF zn_B_11 (k_B_magnitude κ X hX l H.size x0 o_1 ho_1) hX hXs hK hA hP hD hS ⟨by decide, by decide⟩ ⟨rfl, rfl, rfl, rfl, rfl, by decide⟩ ⟨rfl, fun _ => rfl, fun _ => rfl⟩ rfl hl.1 rfl (Nat.le_of_ble_eq_true rfl) ⟨Nat.zero_le _, Nat.zero_le _⟩ d_B_exponent_1 (fun r_1 u H locs hw hP hD hS => ?_)
  subst hw
  refine lv_bipush (v := 52) hx hb d_B_exponent_4 (by decide) ?_
  refine lv_lushr (v := (jlushr r_1 52)) hx hb d_B_exponent_6 rfl ?_
  refine lv_l2i hx hb d_B_exponent_7 rfl ?_
  refine lv_istore_n (lv' := [(2, .int ((jlushr r_1 52)).toInt32), (0, .long x0)]) hx hb d_B_exponent_8 rfl hl (by decide) rfl (fun ls hl => ?_)
  refine lv_iload_n hx hb d_B_exponent_9 rfl (lv_at hl 0 rfl) ?_
  refine lv_if_ne (tgt := 17) hx hb d_B_exponent_10 (by decide) (fun c_10 => ?_) (fun c_10 => ?_)
  · have hf := (zbr hf).2 c_10
    refine lv_iload_n hx hb d_B_exponent_17 rfl (lv_at hl 0 rfl) ?_
    refine lv_sipush (v := 1075) hx hb d_B_exponent_18 (by decide) ?_
    refine lv_isub hx hb d_B_exponent_21 ?_
    exact hret ((((jlushr r_1 52)).toInt32 - 1075)) () H locs ls _ d_B_exponent_22 hP hD hS (Option.some.inj hf)
  · have hf := (zbr hf).1 c_10
    refine lv_iconst (v := 1) hx hb d_B_exponent_13 (by decide) ?_
    refine lv_goto (tgt := 18) hx hb d_B_exponent_14 (by decide) ?_
    refine lv_sipush (v := 1075) hx hb d_B_exponent_18 (by decide) ?_
    refine lv_isub hx hb d_B_exponent_21 ?_
    exact hret ((1 - 1075)) () H locs ls _ d_B_exponent_22 hP hD hS (Option.some.inj hf)
theorem d_B_bitLength_0 : decode c_B_bitLength 0 = .ok (.iconst 0, 1) := by decide +kernel
theorem d_B_bitLength_1 : decode c_B_bitLength 1 = .ok (.istore_n 2, 1) := by decide +kernel
theorem d_B_bitLength_2 : decode c_B_bitLength 2 = .ok (.bipush 32, 2) := by decide +kernel
theorem d_B_bitLength_4 : decode c_B_bitLength 4 = .ok (.istore_n 3, 1) := by decide +kernel
theorem d_B_bitLength_5 : decode c_B_bitLength 5 = .ok (.iload_n 3, 1) := by decide +kernel
theorem d_B_bitLength_6 : decode c_B_bitLength 6 = .ok (.ifCond .le 26, 3) := by decide +kernel
theorem d_B_bitLength_9 : decode c_B_bitLength 9 = .ok (.lload_n 0, 1) := by decide +kernel
theorem d_B_bitLength_10 : decode c_B_bitLength 10 = .ok (.iload_n 3, 1) := by decide +kernel
theorem d_B_bitLength_11 : decode c_B_bitLength 11 = .ok (.lushr, 1) := by decide +kernel
theorem d_B_bitLength_12 : decode c_B_bitLength 12 = .ok (.lconst 0, 1) := by decide +kernel
theorem d_B_bitLength_13 : decode c_B_bitLength 13 = .ok (.lcmp, 1) := by decide +kernel
theorem d_B_bitLength_14 : decode c_B_bitLength 14 = .ok (.ifCond .eq 11, 3) := by decide +kernel
theorem d_B_bitLength_17 : decode c_B_bitLength 17 = .ok (.lload_n 0, 1) := by decide +kernel
theorem d_B_bitLength_18 : decode c_B_bitLength 18 = .ok (.iload_n 3, 1) := by decide +kernel
theorem d_B_bitLength_19 : decode c_B_bitLength 19 = .ok (.lushr, 1) := by decide +kernel
theorem d_B_bitLength_20 : decode c_B_bitLength 20 = .ok (.lstore_n 0, 1) := by decide +kernel
theorem d_B_bitLength_21 : decode c_B_bitLength 21 = .ok (.iload_n 2, 1) := by decide +kernel
theorem d_B_bitLength_22 : decode c_B_bitLength 22 = .ok (.iload_n 3, 1) := by decide +kernel
theorem d_B_bitLength_23 : decode c_B_bitLength 23 = .ok (.iadd, 1) := by decide +kernel
theorem d_B_bitLength_24 : decode c_B_bitLength 24 = .ok (.istore_n 2, 1) := by decide +kernel
theorem d_B_bitLength_25 : decode c_B_bitLength 25 = .ok (.iload_n 3, 1) := by decide +kernel
theorem d_B_bitLength_26 : decode c_B_bitLength 26 = .ok (.iconst 1, 1) := by decide +kernel
theorem d_B_bitLength_27 : decode c_B_bitLength 27 = .ok (.ishr, 1) := by decide +kernel
theorem d_B_bitLength_28 : decode c_B_bitLength 28 = .ok (.istore_n 3, 1) := by decide +kernel
theorem d_B_bitLength_29 : decode c_B_bitLength 29 = .ok (.goto (-24), 3) := by decide +kernel
theorem d_B_bitLength_32 : decode c_B_bitLength 32 = .ok (.iload_n 2, 1) := by decide +kernel
theorem d_B_bitLength_33 : decode c_B_bitLength 33 = .ok (.lload_n 0, 1) := by decide +kernel
theorem d_B_bitLength_34 : decode c_B_bitLength 34 = .ok (.l2i, 1) := by decide +kernel
theorem d_B_bitLength_35 : decode c_B_bitLength 35 = .ok (.iadd, 1) := by decide +kernel
theorem d_B_bitLength_36 : decode c_B_bitLength 36 = .ok (.ireturn, 1) := by decide +kernel
set_option maxHeartbeats 4000000 in
set_option maxRecDepth 100000 in
theorem k_B_bitLength (κ : zC) (X : zXT) (hX : zX κ X) (l : Launch) (sz : Nat) (x0 : Int64) (out : Int32) (hf : f_B_bitLength x0 = some out) : zMet κ X l y_B_bitLength c_B_bitLength 4 (some .int) 0 0 [.long x0] sz [] (zQi κ (fun (r : Int32) (_ : Unit) => r = out) (fun u => [])) := by
  refine zMet.ofI (by decide +kernel) (Nat.le_of_ble_eq_true rfl) ?_
  intro p e s m args below meth c ls A Q hF hK hP hD hA hXs hS hl hret
  obtain ⟨hx, hb, hml, hown, hts⟩ := id hF
  obtain ⟨H, hH⟩ : ∃ H, H = s.heap := ⟨_, rfl⟩
  obtain ⟨locs, hlo⟩ : ∃ z : List Loc, z = [] := ⟨_, rfl⟩
  replace hP : zP κ [] H := by rw [hH]; exact hP
  replace hS : va_S A s.heap H locs := by rw [hH, hlo]; exact hS
  suffices hgo : W p l e (zR 0 0) s m args below meth c H locs 0 0 Q (F0 m 0 ls []) by rw [hH, hlo] at hgo; exact hgo
  clear hH hlo
  replace hl : lv_has ls 4 [(0, .long x0)] := hl
  have b_32 : ∀ (x0 : Int64) (x2 : Int32) (H : Heap) (locs : List Loc) (ls : Array Slot), f_B_bitLength_32 x0 x2 = some out → zP κ [] H → va_D A [] → va_S A s.heap H locs → lv_has ls 4 [(0, .long x0), (2, .int x2)] → W p l e (zR 0 0) s m args below meth c H locs 0 0 Q (F0 m 32 ls []) := by
    intro x0 x2 H locs ls hf hP hD hS hl
    unfold f_B_bitLength_32 at hf
    refine lv_iload_n hx hb d_B_bitLength_32 rfl (lv_at hl 1 rfl) ?_
    refine lv_lload_n hx hb d_B_bitLength_33 rfl (lv_at hl 0 rfl) ?_
    refine lv_l2i hx hb d_B_bitLength_34 rfl ?_
    refine lv_iadd hx hb d_B_bitLength_35 ?_
    exact hret ((x2 + (x0).toInt32)) () H locs ls _ d_B_bitLength_36 hP hD hS (Option.some.inj hf)
  have b_5 : ∀ (x0 : Int64) (x2 : Int32) (x3 : Int32) (H : Heap) (locs : List Loc) (ls : Array Slot), f_B_bitLength_5 x0 x2 x3 = some out → zP κ [] H → va_D A [] → va_S A s.heap H locs → lv_has ls 4 [(0, .long x0), (2, .int x2), (3, .int x3)] → W p l e (zR 0 0) s m args below meth c H locs 0 0 Q (F0 m 5 ls []) := by
    intro x0 x2 x3 H locs ls hf hP hD hS hl
    refine zrun_ind (P := fun z : (Int64) × (Int32) × (Int32) => ∀ (H : Heap) (locs : List Loc) (ls : Array Slot), zP κ [] H → va_D A [] → va_S A s.heap H locs → lv_has ls 4 [(0, .long z.1), (2, .int z.2.1), (3, .int z.2.2)] → W p l e (zR 0 0) s m args below meth c H locs 0 0 Q (F0 m 5 ls [])) ?_ hf H locs ls hP hD hS hl
    clear hf hP hD hS hl H locs ls x0 x2 x3
    intro z ih hne hexit_5 H locs ls hP hD hS hl
    obtain ⟨q_5, hf⟩ := zne hne
    have hback_5 := fun y (e : q_5 = .inl y) => ih y (e ▸ hf)
    replace hexit_5 := fun y (e : q_5 = .inr y) => hexit_5 y (e ▸ hf)
    clear ih hne
    obtain ⟨x0, x2, x3⟩ := z
    replace hf : f_B_bitLength_5_body x0 x2 x3 = some q_5 := hf
    replace hP : zP κ [] H := hP
    replace hD : va_D A [] := hD
    replace hl : lv_has ls 4 [(0, .long x0), (2, .int x2), (3, .int x3)] := hl
    have b_25 : ∀ (x0 : Int64) (x2 : Int32) (x3 : Int32) (H : Heap) (locs : List Loc) (ls : Array Slot), f_B_bitLength_25 x0 x2 x3 = some q_5 → zP κ [] H → va_D A [] → va_S A s.heap H locs → lv_has ls 4 [(0, .long x0), (2, .int x2), (3, .int x3)] → W p l e (zR 0 0) s m args below meth c H locs 0 0 Q (F0 m 25 ls []) := by
      intro x0 x2 x3 H locs ls hf hP hD hS hl
      unfold f_B_bitLength_25 at hf
      refine lv_iload_n hx hb d_B_bitLength_25 rfl (lv_at hl 2 rfl) ?_
      refine lv_iconst (v := 1) hx hb d_B_bitLength_26 (by decide) ?_
      refine lv_ishr hx hb d_B_bitLength_27 ?_
      refine lv_istore_n (lv' := [(3, .int (jshr x3 1)), (0, .long x0), (2, .int x2)]) hx hb d_B_bitLength_28 rfl hl (by decide) rfl (fun ls hl => ?_)
      refine lv_goto (tgt := 5) hx hb d_B_bitLength_29 (by decide) ?_
      exact hback_5 _ (Option.some.inj hf).symm H locs ls hP hD hS (lv_sub hl [1, 2, 0] rfl)
    unfold f_B_bitLength_5_body at hf
    refine lv_iload_n hx hb d_B_bitLength_5 rfl (lv_at hl 2 rfl) ?_
    refine lv_if_le (tgt := 32) hx hb d_B_bitLength_6 (by decide) (fun c_6 => ?_) (fun c_6 => ?_)
    · have hf := (zbr hf).1 c_6
      have hf := zex hf hexit_5
      exact b_32 x0 x2 H locs ls hf hP hD hS (lv_sub hl [0, 1] rfl)
    · have hf := (zbr hf).2 c_6
      refine lv_lload_n hx hb d_B_bitLength_9 rfl (lv_at hl 0 rfl) ?_
      refine lv_iload_n hx hb d_B_bitLength_10 rfl (lv_at hl 2 rfl) ?_
      refine lv_lushr (v := (jlushr x0 x3)) hx hb d_B_bitLength_11 rfl ?_
      refine lv_lconst (v := 0) hx hb d_B_bitLength_12 (by decide) ?_
      refine W.lcmp hx hb d_B_bitLength_13 ?_
      refine lv_if_eq (tgt := 25) hx hb d_B_bitLength_14 (by decide) (fun c_14 => ?_) (fun c_14 => ?_)
      · have hf := (zbr hf).1 (zc_eq.mp c_14)
        exact b_25 x0 x2 x3 H locs ls hf hP hD hS hl
      · have hf := (zbr hf).2 (zc_neq c_14)
        refine lv_lload_n hx hb d_B_bitLength_17 rfl (lv_at hl 0 rfl) ?_
        refine lv_iload_n hx hb d_B_bitLength_18 rfl (lv_at hl 2 rfl) ?_
        refine lv_lushr (v := (jlushr x0 x3)) hx hb d_B_bitLength_19 rfl ?_
        refine lv_lstore_n (lv' := [(0, .long (jlushr x0 x3)), (2, .int x2), (3, .int x3)]) hx hb d_B_bitLength_20 rfl hl (by decide) rfl (fun ls hl => ?_)
        refine lv_iload_n hx hb d_B_bitLength_21 rfl (lv_at hl 1 rfl) ?_
        refine lv_iload_n hx hb d_B_bitLength_22 rfl (lv_at hl 2 rfl) ?_
        refine lv_iadd hx hb d_B_bitLength_23 ?_
        refine lv_istore_n (lv' := [(2, .int (x2 + x3)), (0, .long (jlushr x0 x3)), (3, .int x3)]) hx hb d_B_bitLength_24 rfl hl (by decide) rfl (fun ls hl => ?_)
        exact b_25 (jlushr x0 x3) (x2 + x3) x3 H locs ls hf hP hD hS (lv_sub hl [1, 0, 2] rfl)
  unfold f_B_bitLength at hf
  refine lv_iconst (v := 0) hx hb d_B_bitLength_0 (by decide) ?_
  refine lv_istore_n (lv' := [(2, .int 0), (0, .long x0)]) hx hb d_B_bitLength_1 rfl hl (by decide) rfl (fun ls hl => ?_)
  refine lv_bipush (v := 32) hx hb d_B_bitLength_2 (by decide) ?_
  refine lv_istore_n (lv' := [(3, .int 32), (2, .int 0), (0, .long x0)]) hx hb d_B_bitLength_4 rfl hl (by decide) rfl (fun ls hl => ?_)
  exact b_5 x0 0 32 H locs ls hf hP hD hS (lv_sub hl [2, 1, 0] rfl)
theorem d_B_lift_0 : decode c_B_lift 0 = .ok (.bipush 53, 2) := by decide +kernel
theorem d_B_lift_2 : decode c_B_lift 2 = .ok (.lload_n 0, 1) := by decide +kernel
theorem d_B_lift_3 : decode c_B_lift 3 = .ok (.invokestatic 21, 3) := by decide +kernel
theorem d_B_lift_6 : decode c_B_lift 6 = .ok (.isub, 1) := by decide +kernel
theorem d_B_lift_7 : decode c_B_lift 7 = .ok (.ireturn, 1) := by decide +kernel
theorem zn_B_21 : zNS R_B 21 y_B_bitLength c_B_bitLength 4 (some .int) 1 := ⟨zco_B_bitLength, zin_B, zml_B_21, zst_B_bitLength, by decide +kernel⟩
set_option maxHeartbeats 4000000 in
set_option maxRecDepth 100000 in
theorem k_B_lift (κ : zC) (X : zXT) (hX : zX κ X) (l : Launch) (sz : Nat) (x0 : Int64) (out : Int32) (hf : f_B_lift x0 = some out) : zMet κ X l y_B_lift c_B_lift 2 (some .int) 1 23 [.long x0] sz [] (zQi κ (fun (r : Int32) (_ : Unit) => r = out) (fun u => [])) := by
  refine zMet.ofI (by decide +kernel) (Nat.le_of_ble_eq_true rfl) ?_
  intro p e s m args below meth c ls A Q hF hK hP hD hA hXs hS hl hret
  obtain ⟨hx, hb, hml, hown, hts⟩ := id hF
  obtain ⟨H, hH⟩ : ∃ H, H = s.heap := ⟨_, rfl⟩
  obtain ⟨locs, hlo⟩ : ∃ z : List Loc, z = [] := ⟨_, rfl⟩
  replace hP : zP κ [] H := by rw [hH]; exact hP
  replace hS : va_S A s.heap H locs := by rw [hH, hlo]; exact hS
  suffices hgo : W p l e (zR 1 23) s m args below meth c H locs 0 0 Q (F0 m 0 ls []) by rw [hH, hlo] at hgo; exact hgo
  clear hH hlo
  replace hl : lv_has ls 2 [(0, .long x0)] := hl
  unfold f_B_lift at hf
  refine lv_bipush (v := 53) hx hb d_B_lift_0 (by decide) ?_
  refine lv_lload_n hx hb d_B_lift_2 rfl (lv_at hl 0 rfl) ?_
  obtain ⟨o_3, ho_3, hf⟩ := zbd hf
  refine zSi (isC := []) (isR := []) (isN := []) (wc := []) (wr := []) (wn := fun u => []) (rest := [.int 53]) (As := [.long x0]) hF zn_B_21 (k_B_bitLength κ X hX l H.size x0 o_3 ho_3) hX hXs hK hA hP hD hS ⟨by decide, by decide⟩ ⟨rfl, rfl, rfl, rfl, rfl, by decide⟩ ⟨rfl, fun _ => rfl, fun _ => rfl⟩ rfl hl.1 rfl (Nat.le_of_ble_eq_true rfl) ⟨Nat.zero_le _, Nat.zero_le _⟩ d_B_lift_3 (fun r_3 u H locs hw hP hD hS => ?_)
  subst hw
  refine lv_isub hx hb d_B_lift_6 ?_
  exact hret ((53 - r_3)) () H locs ls _ d_B_lift_7 hP hD hS (Option.some.inj hf)
theorem d_B_shiftDownWithTrace_0 : decode c_B_shiftDownWithTrace 0 = .ok (.iload_n 2, 1) := by decide +kernel
theorem d_B_shiftDownWithTrace_1 : decode c_B_shiftDownWithTrace 1 = .ok (.ifCond .gt 5, 3) := by decide +kernel
theorem d_B_shiftDownWithTrace_4 : decode c_B_shiftDownWithTrace 4 = .ok (.lload_n 0, 1) := by decide +kernel
theorem d_B_shiftDownWithTrace_5 : decode c_B_shiftDownWithTrace 5 = .ok (.lreturn, 1) := by decide +kernel
theorem d_B_shiftDownWithTrace_6 : decode c_B_shiftDownWithTrace 6 = .ok (.iload_n 2, 1) := by decide +kernel
theorem d_B_shiftDownWithTrace_7 : decode c_B_shiftDownWithTrace 7 = .ok (.bipush 62, 2) := by decide +kernel
theorem d_B_shiftDownWithTrace_9 : decode c_B_shiftDownWithTrace 9 = .ok (.if_icmp .le 15, 3) := by decide +kernel
theorem d_B_shiftDownWithTrace_12 : decode c_B_shiftDownWithTrace 12 = .ok (.lload_n 0, 1) := by decide +kernel
theorem d_B_shiftDownWithTrace_13 : decode c_B_shiftDownWithTrace 13 = .ok (.lconst 0, 1) := by decide +kernel
theorem d_B_shiftDownWithTrace_14 : decode c_B_shiftDownWithTrace 14 = .ok (.lcmp, 1) := by decide +kernel
theorem d_B_shiftDownWithTrace_15 : decode c_B_shiftDownWithTrace 15 = .ok (.ifCond .ne 7, 3) := by decide +kernel
theorem d_B_shiftDownWithTrace_18 : decode c_B_shiftDownWithTrace 18 = .ok (.lconst 0, 1) := by decide +kernel
theorem d_B_shiftDownWithTrace_19 : decode c_B_shiftDownWithTrace 19 = .ok (.goto 4, 3) := by decide +kernel
theorem d_B_shiftDownWithTrace_22 : decode c_B_shiftDownWithTrace 22 = .ok (.lconst 1, 1) := by decide +kernel
theorem d_B_shiftDownWithTrace_23 : decode c_B_shiftDownWithTrace 23 = .ok (.lreturn, 1) := by decide +kernel
theorem d_B_shiftDownWithTrace_24 : decode c_B_shiftDownWithTrace 24 = .ok (.lload_n 0, 1) := by decide +kernel
theorem d_B_shiftDownWithTrace_25 : decode c_B_shiftDownWithTrace 25 = .ok (.lconst 1, 1) := by decide +kernel
theorem d_B_shiftDownWithTrace_26 : decode c_B_shiftDownWithTrace 26 = .ok (.iload_n 2, 1) := by decide +kernel
theorem d_B_shiftDownWithTrace_27 : decode c_B_shiftDownWithTrace 27 = .ok (.lshl, 1) := by decide +kernel
theorem d_B_shiftDownWithTrace_28 : decode c_B_shiftDownWithTrace 28 = .ok (.lconst 1, 1) := by decide +kernel
theorem d_B_shiftDownWithTrace_29 : decode c_B_shiftDownWithTrace 29 = .ok (.lsub, 1) := by decide +kernel
theorem d_B_shiftDownWithTrace_30 : decode c_B_shiftDownWithTrace 30 = .ok (.land, 1) := by decide +kernel
theorem d_B_shiftDownWithTrace_31 : decode c_B_shiftDownWithTrace 31 = .ok (.lstore_n 3, 1) := by decide +kernel
theorem d_B_shiftDownWithTrace_32 : decode c_B_shiftDownWithTrace 32 = .ok (.lload_n 3, 1) := by decide +kernel
theorem d_B_shiftDownWithTrace_33 : decode c_B_shiftDownWithTrace 33 = .ok (.lconst 0, 1) := by decide +kernel
theorem d_B_shiftDownWithTrace_34 : decode c_B_shiftDownWithTrace 34 = .ok (.lcmp, 1) := by decide +kernel
theorem d_B_shiftDownWithTrace_35 : decode c_B_shiftDownWithTrace 35 = .ok (.ifCond .ne 9, 3) := by decide +kernel
theorem d_B_shiftDownWithTrace_38 : decode c_B_shiftDownWithTrace 38 = .ok (.lload_n 0, 1) := by decide +kernel
theorem d_B_shiftDownWithTrace_39 : decode c_B_shiftDownWithTrace 39 = .ok (.iload_n 2, 1) := by decide +kernel
theorem d_B_shiftDownWithTrace_40 : decode c_B_shiftDownWithTrace 40 = .ok (.lushr, 1) := by decide +kernel
theorem d_B_shiftDownWithTrace_41 : decode c_B_shiftDownWithTrace 41 = .ok (.goto 8, 3) := by decide +kernel
theorem d_B_shiftDownWithTrace_44 : decode c_B_shiftDownWithTrace 44 = .ok (.lload_n 0, 1) := by decide +kernel
theorem d_B_shiftDownWithTrace_45 : decode c_B_shiftDownWithTrace 45 = .ok (.iload_n 2, 1) := by decide +kernel
theorem d_B_shiftDownWithTrace_46 : decode c_B_shiftDownWithTrace 46 = .ok (.lushr, 1) := by decide +kernel
theorem d_B_shiftDownWithTrace_47 : decode c_B_shiftDownWithTrace 47 = .ok (.lconst 1, 1) := by decide +kernel
theorem d_B_shiftDownWithTrace_48 : decode c_B_shiftDownWithTrace 48 = .ok (.lor, 1) := by decide +kernel
theorem d_B_shiftDownWithTrace_49 : decode c_B_shiftDownWithTrace 49 = .ok (.lreturn, 1) := by decide +kernel
set_option maxHeartbeats 4000000 in
set_option maxRecDepth 100000 in
theorem k_B_shiftDownWithTrace (κ : zC) (X : zXT) (hX : zX κ X) (l : Launch) (sz : Nat) (x0 : Int64) (x2 : Int32) (out : Int64) (hf : f_B_shiftDownWithTrace x0 x2 = some out) : zMet κ X l y_B_shiftDownWithTrace c_B_shiftDownWithTrace 5 (some .long) 0 0 [.long x0, .int x2] sz [] (zQl κ (fun (r : Int64) (_ : Unit) => r = out) (fun u => [])) := by
  refine zMet.ofL (by decide +kernel) (Nat.le_of_ble_eq_true rfl) ?_
  intro p e s m args below meth c ls A Q hF hK hP hD hA hXs hS hl hret
  obtain ⟨hx, hb, hml, hown, hts⟩ := id hF
  obtain ⟨H, hH⟩ : ∃ H, H = s.heap := ⟨_, rfl⟩
  obtain ⟨locs, hlo⟩ : ∃ z : List Loc, z = [] := ⟨_, rfl⟩
  replace hP : zP κ [] H := by rw [hH]; exact hP
  replace hS : va_S A s.heap H locs := by rw [hH, hlo]; exact hS
  suffices hgo : W p l e (zR 0 0) s m args below meth c H locs 0 0 Q (F0 m 0 ls []) by rw [hH, hlo] at hgo; exact hgo
  clear hH hlo
  replace hl : lv_has ls 5 [(0, .long x0), (2, .int x2)] := hl
  unfold f_B_shiftDownWithTrace at hf
  refine lv_iload_n hx hb d_B_shiftDownWithTrace_0 rfl (lv_at hl 1 rfl) ?_
  refine lv_if_gt (tgt := 6) hx hb d_B_shiftDownWithTrace_1 (by decide) (fun c_1 => ?_) (fun c_1 => ?_)
  · have hf := (zbr hf).1 c_1
    refine lv_iload_n hx hb d_B_shiftDownWithTrace_6 rfl (lv_at hl 1 rfl) ?_
    refine lv_bipush (v := 62) hx hb d_B_shiftDownWithTrace_7 (by decide) ?_
    refine lv_icmp_le (tgt := 24) hx hb d_B_shiftDownWithTrace_9 (by decide) (fun c_9 => ?_) (fun c_9 => ?_)
    · have hf := (zbr hf).1 c_9
      refine lv_lload_n hx hb d_B_shiftDownWithTrace_24 rfl (lv_at hl 0 rfl) ?_
      refine lv_lconst (v := 1) hx hb d_B_shiftDownWithTrace_25 (by decide) ?_
      refine lv_iload_n hx hb d_B_shiftDownWithTrace_26 rfl (lv_at hl 1 rfl) ?_
      refine lv_lshl (v := (jlshl 1 x2)) hx hb d_B_shiftDownWithTrace_27 rfl ?_
      refine lv_lconst (v := 1) hx hb d_B_shiftDownWithTrace_28 (by decide) ?_
      refine lv_lsub hx hb d_B_shiftDownWithTrace_29 ?_
      refine lv_land hx hb d_B_shiftDownWithTrace_30 ?_
      refine lv_lstore_n (lv' := [(3, .long (x0 &&& ((jlshl 1 x2) - 1))), (0, .long x0), (2, .int x2)]) hx hb d_B_shiftDownWithTrace_31 rfl hl (by decide) rfl (fun ls hl => ?_)
      refine lv_lload_n hx hb d_B_shiftDownWithTrace_32 rfl (lv_at hl 0 rfl) ?_
      refine lv_lconst (v := 0) hx hb d_B_shiftDownWithTrace_33 (by decide) ?_
      refine W.lcmp hx hb d_B_shiftDownWithTrace_34 ?_
      refine lv_if_ne (tgt := 44) hx hb d_B_shiftDownWithTrace_35 (by decide) (fun c_35 => ?_) (fun c_35 => ?_)
      · have hf := (zbr hf).2 (zc_neq c_35)
        refine lv_lload_n hx hb d_B_shiftDownWithTrace_44 rfl (lv_at hl 1 rfl) ?_
        refine lv_iload_n hx hb d_B_shiftDownWithTrace_45 rfl (lv_at hl 2 rfl) ?_
        refine lv_lushr (v := (jlushr x0 x2)) hx hb d_B_shiftDownWithTrace_46 rfl ?_
        refine lv_lconst (v := 1) hx hb d_B_shiftDownWithTrace_47 (by decide) ?_
        refine lv_lor hx hb d_B_shiftDownWithTrace_48 ?_
        exact hret (((jlushr x0 x2) ||| 1)) () H locs ls _ d_B_shiftDownWithTrace_49 hP hD hS (Option.some.inj hf)
      · have hf := (zbr hf).1 (zc_eq.mp c_35)
        refine lv_lload_n hx hb d_B_shiftDownWithTrace_38 rfl (lv_at hl 1 rfl) ?_
        refine lv_iload_n hx hb d_B_shiftDownWithTrace_39 rfl (lv_at hl 2 rfl) ?_
        refine lv_lushr (v := (jlushr x0 x2)) hx hb d_B_shiftDownWithTrace_40 rfl ?_
        refine lv_goto (tgt := 49) hx hb d_B_shiftDownWithTrace_41 (by decide) ?_
        exact hret ((jlushr x0 x2)) () H locs ls _ d_B_shiftDownWithTrace_49 hP hD hS (Option.some.inj hf)
    · have hf := (zbr hf).2 c_9
      refine lv_lload_n hx hb d_B_shiftDownWithTrace_12 rfl (lv_at hl 0 rfl) ?_
      refine lv_lconst (v := 0) hx hb d_B_shiftDownWithTrace_13 (by decide) ?_
      refine W.lcmp hx hb d_B_shiftDownWithTrace_14 ?_
      refine lv_if_ne (tgt := 22) hx hb d_B_shiftDownWithTrace_15 (by decide) (fun c_15 => ?_) (fun c_15 => ?_)
      · have hf := (zbr hf).2 (zc_neq c_15)
        refine lv_lconst (v := 1) hx hb d_B_shiftDownWithTrace_22 (by decide) ?_
        exact hret ((1 : Int64)) () H locs ls _ d_B_shiftDownWithTrace_23 hP hD hS (Option.some.inj hf)
      · have hf := (zbr hf).1 (zc_eq.mp c_15)
        refine lv_lconst (v := 0) hx hb d_B_shiftDownWithTrace_18 (by decide) ?_
        refine lv_goto (tgt := 23) hx hb d_B_shiftDownWithTrace_19 (by decide) ?_
        exact hret ((0 : Int64)) () H locs ls _ d_B_shiftDownWithTrace_23 hP hD hS (Option.some.inj hf)
  · have hf := (zbr hf).2 c_1
    refine lv_lload_n hx hb d_B_shiftDownWithTrace_4 rfl (lv_at hl 0 rfl) ?_
    exact hret (x0) () H locs ls _ d_B_shiftDownWithTrace_5 hP hD hS (Option.some.inj hf)
theorem d_B_shiftDownToNearest_0 : decode c_B_shiftDownToNearest 0 = .ok (.lload_n 0, 1) := by decide +kernel
theorem d_B_shiftDownToNearest_1 : decode c_B_shiftDownToNearest 1 = .ok (.iload_n 2, 1) := by decide +kernel
theorem d_B_shiftDownToNearest_2 : decode c_B_shiftDownToNearest 2 = .ok (.lushr, 1) := by decide +kernel
theorem d_B_shiftDownToNearest_3 : decode c_B_shiftDownToNearest 3 = .ok (.lstore_n 3, 1) := by decide +kernel
theorem d_B_shiftDownToNearest_4 : decode c_B_shiftDownToNearest 4 = .ok (.lload_n 0, 1) := by decide +kernel
theorem d_B_shiftDownToNearest_5 : decode c_B_shiftDownToNearest 5 = .ok (.lconst 1, 1) := by decide +kernel
theorem d_B_shiftDownToNearest_6 : decode c_B_shiftDownToNearest 6 = .ok (.iload_n 2, 1) := by decide +kernel
theorem d_B_shiftDownToNearest_7 : decode c_B_shiftDownToNearest 7 = .ok (.lshl, 1) := by decide +kernel
theorem d_B_shiftDownToNearest_8 : decode c_B_shiftDownToNearest 8 = .ok (.lconst 1, 1) := by decide +kernel
theorem d_B_shiftDownToNearest_9 : decode c_B_shiftDownToNearest 9 = .ok (.lsub, 1) := by decide +kernel
theorem d_B_shiftDownToNearest_10 : decode c_B_shiftDownToNearest 10 = .ok (.land, 1) := by decide +kernel
theorem d_B_shiftDownToNearest_11 : decode c_B_shiftDownToNearest 11 = .ok (.lstore 5, 2) := by decide +kernel
theorem d_B_shiftDownToNearest_13 : decode c_B_shiftDownToNearest 13 = .ok (.lconst 1, 1) := by decide +kernel
theorem d_B_shiftDownToNearest_14 : decode c_B_shiftDownToNearest 14 = .ok (.iload_n 2, 1) := by decide +kernel
theorem d_B_shiftDownToNearest_15 : decode c_B_shiftDownToNearest 15 = .ok (.iconst 1, 1) := by decide +kernel
theorem d_B_shiftDownToNearest_16 : decode c_B_shiftDownToNearest 16 = .ok (.isub, 1) := by decide +kernel
theorem d_B_shiftDownToNearest_17 : decode c_B_shiftDownToNearest 17 = .ok (.lshl, 1) := by decide +kernel
theorem d_B_shiftDownToNearest_18 : decode c_B_shiftDownToNearest 18 = .ok (.lstore 7, 2) := by decide +kernel
theorem d_B_shiftDownToNearest_20 : decode c_B_shiftDownToNearest 20 = .ok (.lload 5, 2) := by decide +kernel
theorem d_B_shiftDownToNearest_22 : decode c_B_shiftDownToNearest 22 = .ok (.lload 7, 2) := by decide +kernel
theorem d_B_shiftDownToNearest_24 : decode c_B_shiftDownToNearest 24 = .ok (.lcmp, 1) := by decide +kernel
theorem d_B_shiftDownToNearest_25 : decode c_B_shiftDownToNearest 25 = .ok (.ifCond .gt 19, 3) := by decide +kernel
theorem d_B_shiftDownToNearest_28 : decode c_B_shiftDownToNearest 28 = .ok (.lload 5, 2) := by decide +kernel
theorem d_B_shiftDownToNearest_30 : decode c_B_shiftDownToNearest 30 = .ok (.lload 7, 2) := by decide +kernel
theorem d_B_shiftDownToNearest_32 : decode c_B_shiftDownToNearest 32 = .ok (.lcmp, 1) := by decide +kernel
theorem d_B_shiftDownToNearest_33 : decode c_B_shiftDownToNearest 33 = .ok (.ifCond .ne 15, 3) := by decide +kernel
theorem d_B_shiftDownToNearest_36 : decode c_B_shiftDownToNearest 36 = .ok (.lload_n 3, 1) := by decide +kernel
theorem d_B_shiftDownToNearest_37 : decode c_B_shiftDownToNearest 37 = .ok (.lconst 1, 1) := by decide +kernel
theorem d_B_shiftDownToNearest_38 : decode c_B_shiftDownToNearest 38 = .ok (.land, 1) := by decide +kernel
theorem d_B_shiftDownToNearest_39 : decode c_B_shiftDownToNearest 39 = .ok (.lconst 0, 1) := by decide +kernel
theorem d_B_shiftDownToNearest_40 : decode c_B_shiftDownToNearest 40 = .ok (.lcmp, 1) := by decide +kernel
theorem d_B_shiftDownToNearest_41 : decode c_B_shiftDownToNearest 41 = .ok (.ifCond .eq 7, 3) := by decide +kernel
theorem d_B_shiftDownToNearest_44 : decode c_B_shiftDownToNearest 44 = .ok (.iconst 1, 1) := by decide +kernel
theorem d_B_shiftDownToNearest_45 : decode c_B_shiftDownToNearest 45 = .ok (.goto 4, 3) := by decide +kernel
theorem d_B_shiftDownToNearest_48 : decode c_B_shiftDownToNearest 48 = .ok (.iconst 0, 1) := by decide +kernel
theorem d_B_shiftDownToNearest_49 : decode c_B_shiftDownToNearest 49 = .ok (.istore 9, 2) := by decide +kernel
theorem d_B_shiftDownToNearest_51 : decode c_B_shiftDownToNearest 51 = .ok (.iload 9, 2) := by decide +kernel
theorem d_B_shiftDownToNearest_53 : decode c_B_shiftDownToNearest 53 = .ok (.ifCond .eq 9, 3) := by decide +kernel
theorem d_B_shiftDownToNearest_56 : decode c_B_shiftDownToNearest 56 = .ok (.lload_n 3, 1) := by decide +kernel
theorem d_B_shiftDownToNearest_57 : decode c_B_shiftDownToNearest 57 = .ok (.lconst 1, 1) := by decide +kernel
theorem d_B_shiftDownToNearest_58 : decode c_B_shiftDownToNearest 58 = .ok (.ladd, 1) := by decide +kernel
theorem d_B_shiftDownToNearest_59 : decode c_B_shiftDownToNearest 59 = .ok (.goto 4, 3) := by decide +kernel
theorem d_B_shiftDownToNearest_62 : decode c_B_shiftDownToNearest 62 = .ok (.lload_n 3, 1) := by decide +kernel
theorem d_B_shiftDownToNearest_63 : decode c_B_shiftDownToNearest 63 = .ok (.lreturn, 1) := by decide +kernel
set_option maxHeartbeats 4000000 in
set_option maxRecDepth 100000 in
theorem k_B_shiftDownToNearest (κ : zC) (X : zXT) (hX : zX κ X) (l : Launch) (sz : Nat) (x0 : Int64) (x2 : Int32) (out : Int64) (hf : f_B_shiftDownToNearest x0 x2 = some out) : zMet κ X l y_B_shiftDownToNearest c_B_shiftDownToNearest 10 (some .long) 0 0 [.long x0, .int x2] sz [] (zQl κ (fun (r : Int64) (_ : Unit) => r = out) (fun u => [])) := by
  refine zMet.ofL (by decide +kernel) (Nat.le_of_ble_eq_true rfl) ?_
  intro p e s m args below meth c ls A Q hF hK hP hD hA hXs hS hl hret
  obtain ⟨hx, hb, hml, hown, hts⟩ := id hF
  obtain ⟨H, hH⟩ : ∃ H, H = s.heap := ⟨_, rfl⟩
  obtain ⟨locs, hlo⟩ : ∃ z : List Loc, z = [] := ⟨_, rfl⟩
  replace hP : zP κ [] H := by rw [hH]; exact hP
  replace hS : va_S A s.heap H locs := by rw [hH, hlo]; exact hS
  suffices hgo : W p l e (zR 0 0) s m args below meth c H locs 0 0 Q (F0 m 0 ls []) by rw [hH, hlo] at hgo; exact hgo
  clear hH hlo
  replace hl : lv_has ls 10 [(0, .long x0), (2, .int x2)] := hl
  have b_49 : ∀ (x3 : Int64) (s0 : Int32) (H : Heap) (locs : List Loc) (ls : Array Slot), f_B_shiftDownToNearest_49 x3 s0 = some out → zP κ [] H → va_D A [] → va_S A s.heap H locs → lv_has ls 10 [(3, .long x3)] → W p l e (zR 0 0) s m args below meth c H locs 0 0 Q (F0 m 49 ls [.int s0]) := by
    intro x3 s0 H locs ls hf hP hD hS hl
    unfold f_B_shiftDownToNearest_49 at hf
    refine lv_istore (lv' := [(9, .int s0), (3, .long x3)]) hx hb d_B_shiftDownToNearest_49 hl (by decide) rfl (fun ls hl => ?_)
    refine lv_iload hx hb d_B_shiftDownToNearest_51 (lv_at hl 0 rfl) ?_
    refine lv_if_eq (tgt := 62) hx hb d_B_shiftDownToNearest_53 (by decide) (fun c_53 => ?_) (fun c_53 => ?_)
    · have hf := (zbr hf).1 c_53
      refine lv_lload_n hx hb d_B_shiftDownToNearest_62 rfl (lv_at hl 1 rfl) ?_
      exact hret (x3) () H locs ls _ d_B_shiftDownToNearest_63 hP hD hS (Option.some.inj hf)
    · have hf := (zbr hf).2 c_53
      refine lv_lload_n hx hb d_B_shiftDownToNearest_56 rfl (lv_at hl 1 rfl) ?_
      refine lv_lconst (v := 1) hx hb d_B_shiftDownToNearest_57 (by decide) ?_
      refine lv_ladd hx hb d_B_shiftDownToNearest_58 ?_
      refine lv_goto (tgt := 63) hx hb d_B_shiftDownToNearest_59 (by decide) ?_
      exact hret ((x3 + 1)) () H locs ls _ d_B_shiftDownToNearest_63 hP hD hS (Option.some.inj hf)
  have b_48 : ∀ (x3 : Int64) (H : Heap) (locs : List Loc) (ls : Array Slot), f_B_shiftDownToNearest_48 x3 = some out → zP κ [] H → va_D A [] → va_S A s.heap H locs → lv_has ls 10 [(3, .long x3)] → W p l e (zR 0 0) s m args below meth c H locs 0 0 Q (F0 m 48 ls []) := by
    intro x3 H locs ls hf hP hD hS hl
    unfold f_B_shiftDownToNearest_48 at hf
    refine lv_iconst (v := 0) hx hb d_B_shiftDownToNearest_48 (by decide) ?_
    exact b_49 x3 0 H locs ls hf hP hD hS hl
  have b_44 : ∀ (x3 : Int64) (H : Heap) (locs : List Loc) (ls : Array Slot), f_B_shiftDownToNearest_44 x3 = some out → zP κ [] H → va_D A [] → va_S A s.heap H locs → lv_has ls 10 [(3, .long x3)] → W p l e (zR 0 0) s m args below meth c H locs 0 0 Q (F0 m 44 ls []) := by
    intro x3 H locs ls hf hP hD hS hl
    unfold f_B_shiftDownToNearest_44 at hf
    refine lv_iconst (v := 1) hx hb d_B_shiftDownToNearest_44 (by decide) ?_
    refine lv_goto (tgt := 49) hx hb d_B_shiftDownToNearest_45 (by decide) ?_
    exact b_49 x3 1 H locs ls hf hP hD hS hl
  unfold f_B_shiftDownToNearest at hf
  refine lv_lload_n hx hb d_B_shiftDownToNearest_0 rfl (lv_at hl 0 rfl) ?_
  refine lv_iload_n hx hb d_B_shiftDownToNearest_1 rfl (lv_at hl 1 rfl) ?_
  refine lv_lushr (v := (jlushr x0 x2)) hx hb d_B_shiftDownToNearest_2 rfl ?_
  refine lv_lstore_n (lv' := [(3, .long (jlushr x0 x2)), (0, .long x0), (2, .int x2)]) hx hb d_B_shiftDownToNearest_3 rfl hl (by decide) rfl (fun ls hl => ?_)
  refine lv_lload_n hx hb d_B_shiftDownToNearest_4 rfl (lv_at hl 1 rfl) ?_
  refine lv_lconst (v := 1) hx hb d_B_shiftDownToNearest_5 (by decide) ?_
  refine lv_iload_n hx hb d_B_shiftDownToNearest_6 rfl (lv_at hl 2 rfl) ?_
  refine lv_lshl (v := (jlshl 1 x2)) hx hb d_B_shiftDownToNearest_7 rfl ?_
  refine lv_lconst (v := 1) hx hb d_B_shiftDownToNearest_8 (by decide) ?_
  refine lv_lsub hx hb d_B_shiftDownToNearest_9 ?_
  refine lv_land hx hb d_B_shiftDownToNearest_10 ?_
  refine lv_lstore (lv' := [(5, .long (x0 &&& ((jlshl 1 x2) - 1))), (3, .long (jlushr x0 x2)), (0, .long x0), (2, .int x2)]) hx hb d_B_shiftDownToNearest_11 hl (by decide) rfl (fun ls hl => ?_)
  refine lv_lconst (v := 1) hx hb d_B_shiftDownToNearest_13 (by decide) ?_
  refine lv_iload_n hx hb d_B_shiftDownToNearest_14 rfl (lv_at hl 3 rfl) ?_
  refine lv_iconst (v := 1) hx hb d_B_shiftDownToNearest_15 (by decide) ?_
  refine lv_isub hx hb d_B_shiftDownToNearest_16 ?_
  refine lv_lshl (v := (jlshl 1 (x2 - 1))) hx hb d_B_shiftDownToNearest_17 rfl ?_
  refine lv_lstore (lv' := [(7, .long (jlshl 1 (x2 - 1))), (5, .long (x0 &&& ((jlshl 1 x2) - 1))), (3, .long (jlushr x0 x2)), (0, .long x0), (2, .int x2)]) hx hb d_B_shiftDownToNearest_18 hl (by decide) rfl (fun ls hl => ?_)
  refine lv_lload hx hb d_B_shiftDownToNearest_20 (lv_at hl 1 rfl) ?_
  refine lv_lload hx hb d_B_shiftDownToNearest_22 (lv_at hl 0 rfl) ?_
  refine W.lcmp hx hb d_B_shiftDownToNearest_24 ?_
  refine lv_if_gt (tgt := 44) hx hb d_B_shiftDownToNearest_25 (by decide) (fun c_25 => ?_) (fun c_25 => ?_)
  · have hf := (zbr hf).1 (zc_gt.mp c_25)
    exact b_44 (jlushr x0 x2) H locs ls hf hP hD hS (lv_sub hl [2] rfl)
  · have hf := (zbr hf).2 (zc_ngt c_25)
    refine lv_lload hx hb d_B_shiftDownToNearest_28 (lv_at hl 1 rfl) ?_
    refine lv_lload hx hb d_B_shiftDownToNearest_30 (lv_at hl 0 rfl) ?_
    refine W.lcmp hx hb d_B_shiftDownToNearest_32 ?_
    refine lv_if_ne (tgt := 48) hx hb d_B_shiftDownToNearest_33 (by decide) (fun c_33 => ?_) (fun c_33 => ?_)
    · have hf := (zbr hf).2 (zc_neq c_33)
      exact b_48 (jlushr x0 x2) H locs ls hf hP hD hS (lv_sub hl [2] rfl)
    · have hf := (zbr hf).1 (zc_eq.mp c_33)
      refine lv_lload_n hx hb d_B_shiftDownToNearest_36 rfl (lv_at hl 2 rfl) ?_
      refine lv_lconst (v := 1) hx hb d_B_shiftDownToNearest_37 (by decide) ?_
      refine lv_land hx hb d_B_shiftDownToNearest_38 ?_
      refine lv_lconst (v := 0) hx hb d_B_shiftDownToNearest_39 (by decide) ?_
      refine W.lcmp hx hb d_B_shiftDownToNearest_40 ?_
      refine lv_if_eq (tgt := 48) hx hb d_B_shiftDownToNearest_41 (by decide) (fun c_41 => ?_) (fun c_41 => ?_)
      · have hf := (zbr hf).1 (zc_eq.mp c_41)
        exact b_48 (jlushr x0 x2) H locs ls hf hP hD hS (lv_sub hl [2] rfl)
      · have hf := (zbr hf).2 (zc_neq c_41)
        exact b_44 (jlushr x0 x2) H locs ls hf hP hD hS (lv_sub hl [2] rfl)
theorem d_B_round_0 : decode c_B_round 0 = .ok (.lload_n 2, 1) := by decide +kernel
theorem d_B_round_1 : decode c_B_round 1 = .ok (.lconst 0, 1) := by decide +kernel
theorem d_B_round_2 : decode c_B_round 2 = .ok (.lcmp, 1) := by decide +kernel
theorem d_B_round_3 : decode c_B_round 3 = .ok (.ifCond .ne 5, 3) := by decide +kernel
theorem d_B_round_6 : decode c_B_round 6 = .ok (.lload_n 0, 1) := by decide +kernel
theorem d_B_round_7 : decode c_B_round 7 = .ok (.lreturn, 1) := by decide +kernel
theorem d_B_round_8 : decode c_B_round 8 = .ok (.lload_n 2, 1) := by decide +kernel
theorem d_B_round_9 : decode c_B_round 9 = .ok (.invokestatic 25, 3) := by decide +kernel
theorem d_B_round_12 : decode c_B_round 12 = .ok (.ineg, 1) := by decide +kernel
theorem d_B_round_13 : decode c_B_round 13 = .ok (.sipush (-1074), 3) := by decide +kernel
theorem d_B_round_16 : decode c_B_round 16 = .ok (.iload 4, 2) := by decide +kernel
theorem d_B_round_18 : decode c_B_round 18 = .ok (.isub, 1) := by decide +kernel
theorem d_B_round_19 : decode c_B_round 19 = .ok (.invokestatic 28, 3) := by decide +kernel
theorem d_B_round_22 : decode c_B_round 22 = .ok (.istore 5, 2) := by decide +kernel
theorem d_B_round_24 : decode c_B_round 24 = .ok (.iload 5, 2) := by decide +kernel
theorem d_B_round_26 : decode c_B_round 26 = .ok (.bipush 63, 2) := by decide +kernel
theorem d_B_round_28 : decode c_B_round 28 = .ok (.if_icmp .le 5, 3) := by decide +kernel
theorem d_B_round_31 : decode c_B_round 31 = .ok (.lload_n 0, 1) := by decide +kernel
theorem d_B_round_32 : decode c_B_round 32 = .ok (.lreturn, 1) := by decide +kernel
theorem d_B_round_33 : decode c_B_round 33 = .ok (.iload 4, 2) := by decide +kernel
theorem d_B_round_35 : decode c_B_round 35 = .ok (.iload 5, 2) := by decide +kernel
theorem d_B_round_37 : decode c_B_round 37 = .ok (.iadd, 1) := by decide +kernel
theorem d_B_round_38 : decode c_B_round 38 = .ok (.istore 6, 2) := by decide +kernel
theorem d_B_round_40 : decode c_B_round 40 = .ok (.iload 6, 2) := by decide +kernel
theorem d_B_round_42 : decode c_B_round 42 = .ok (.sipush 971, 3) := by decide +kernel
theorem d_B_round_45 : decode c_B_round 45 = .ok (.if_icmp .le 9, 3) := by decide +kernel
theorem d_B_round_48 : decode c_B_round 48 = .ok (.lload_n 0, 1) := by decide +kernel
theorem d_B_round_49 : decode c_B_round 49 = .ok (.ldc2_w 15, 3) := by decide +kernel
theorem d_B_round_52 : decode c_B_round 52 = .ok (.lor, 1) := by decide +kernel
theorem d_B_round_53 : decode c_B_round 53 = .ok (.lreturn, 1) := by decide +kernel
theorem d_B_round_54 : decode c_B_round 54 = .ok (.iload 5, 2) := by decide +kernel
theorem d_B_round_56 : decode c_B_round 56 = .ok (.ifCond .le 12, 3) := by decide +kernel
theorem d_B_round_59 : decode c_B_round 59 = .ok (.lload_n 2, 1) := by decide +kernel
theorem d_B_round_60 : decode c_B_round 60 = .ok (.iload 5, 2) := by decide +kernel
theorem d_B_round_62 : decode c_B_round 62 = .ok (.invokestatic 34, 3) := by decide +kernel
theorem d_B_round_65 : decode c_B_round 65 = .ok (.goto 8, 3) := by decide +kernel
theorem d_B_round_68 : decode c_B_round 68 = .ok (.lload_n 2, 1) := by decide +kernel
theorem d_B_round_69 : decode c_B_round 69 = .ok (.iload 5, 2) := by decide +kernel
theorem d_B_round_71 : decode c_B_round 71 = .ok (.ineg, 1) := by decide +kernel
theorem d_B_round_72 : decode c_B_round 72 = .ok (.lshl, 1) := by decide +kernel
theorem d_B_round_73 : decode c_B_round 73 = .ok (.lstore 7, 2) := by decide +kernel
theorem d_B_round_75 : decode c_B_round 75 = .ok (.lload_n 0, 1) := by decide +kernel
theorem d_B_round_76 : decode c_B_round 76 = .ok (.iload 6, 2) := by decide +kernel
theorem d_B_round_78 : decode c_B_round 78 = .ok (.sipush (-1074), 3) := by decide +kernel
theorem d_B_round_81 : decode c_B_round 81 = .ok (.isub, 1) := by decide +kernel
theorem d_B_round_82 : decode c_B_round 82 = .ok (.i2l, 1) := by decide +kernel
theorem d_B_round_83 : decode c_B_round 83 = .ok (.bipush 52, 2) := by decide +kernel
theorem d_B_round_85 : decode c_B_round 85 = .ok (.lshl, 1) := by decide +kernel
theorem d_B_round_86 : decode c_B_round 86 = .ok (.lload 7, 2) := by decide +kernel
theorem d_B_round_88 : decode c_B_round 88 = .ok (.ladd, 1) := by decide +kernel
theorem d_B_round_89 : decode c_B_round 89 = .ok (.lor, 1) := by decide +kernel
theorem d_B_round_90 : decode c_B_round 90 = .ok (.lreturn, 1) := by decide +kernel
theorem zn_B_25 : zNS R_B 25 y_B_lift c_B_lift 2 (some .int) 1 := ⟨zco_B_lift, zin_B, zml_B_25, zst_B_lift, by decide +kernel⟩
theorem zn_B_34 : zNS R_B 34 y_B_shiftDownToNearest c_B_shiftDownToNearest 10 (some .long) 2 := ⟨zco_B_shiftDownToNearest, zin_B, zml_B_34, zst_B_shiftDownToNearest, by decide +kernel⟩
set_option maxHeartbeats 4000000 in
set_option maxRecDepth 100000 in
theorem k_B_round (κ : zC) (X : zXT) (hX : zX κ X) (l : Launch) (sz : Nat) (x0 : Int64) (x2 : Int64) (x4 : Int32) (out : Int64) (hf : f_B_round x0 x2 x4 = some out) : zMet κ X l y_B_round c_B_round 9 (some .long) 2 44 [.long x0, .long x2, .int x4] sz [] (zQl κ (fun (r : Int64) (_ : Unit) => r = out) (fun u => [])) := by
  refine zMet.ofL (by decide +kernel) (Nat.le_of_ble_eq_true rfl) ?_
  intro p e s m args below meth c ls A Q hF hK hP hD hA hXs hS hl hret
  obtain ⟨hx, hb, hml, hown, hts⟩ := id hF
  obtain ⟨H, hH⟩ : ∃ H, H = s.heap := ⟨_, rfl⟩
  obtain ⟨locs, hlo⟩ : ∃ z : List Loc, z = [] := ⟨_, rfl⟩
  replace hP : zP κ [] H := by rw [hH]; exact hP
  replace hS : va_S A s.heap H locs := by rw [hH, hlo]; exact hS
  suffices hgo : W p l e (zR 2 44) s m args below meth c H locs 0 0 Q (F0 m 0 ls []) by rw [hH, hlo] at hgo; exact hgo
  clear hH hlo
  replace hl : lv_has ls 9 [(0, .long x0), (2, .long x2), (4, .int x4)] := hl
  have b_73 : ∀ (x0 : Int64) (x6 : Int32) (s0 : Int64) (H : Heap) (locs : List Loc) (ls : Array Slot), f_B_round_73 x0 x6 s0 = some out → zP κ [] H → va_D A [] → va_S A s.heap H locs → lv_has ls 9 [(0, .long x0), (6, .int x6)] → W p l e (zR 2 44) s m args below meth c H locs 0 0 Q (F0 m 73 ls [.long s0]) := by
    intro x0 x6 s0 H locs ls hf hP hD hS hl
    unfold f_B_round_73 at hf
    refine lv_lstore (lv' := [(7, .long s0), (0, .long x0), (6, .int x6)]) hx hb d_B_round_73 hl (by decide) rfl (fun ls hl => ?_)
    refine lv_lload_n hx hb d_B_round_75 rfl (lv_at hl 1 rfl) ?_
    refine lv_iload hx hb d_B_round_76 (lv_at hl 2 rfl) ?_
    refine lv_sipush (v := (-1074)) hx hb d_B_round_78 (by decide) ?_
    refine lv_isub hx hb d_B_round_81 ?_
    refine lv_i2l hx hb d_B_round_82 rfl ?_
    refine lv_bipush (v := 52) hx hb d_B_round_83 (by decide) ?_
    refine lv_lshl (v := (jlshl ((x6 - (-1074))).toInt64 52)) hx hb d_B_round_85 rfl ?_
    refine lv_lload hx hb d_B_round_86 (lv_at hl 0 rfl) ?_
    refine lv_ladd hx hb d_B_round_88 ?_
    refine lv_lor hx hb d_B_round_89 ?_
    exact hret ((x0 ||| ((jlshl ((x6 - (-1074))).toInt64 52) + s0))) () H locs ls _ d_B_round_90 hP hD hS (Option.some.inj hf)
  unfold f_B_round at hf
  refine lv_lload_n hx hb d_B_round_0 rfl (lv_at hl 1 rfl) ?_
  refine lv_lconst (v := 0) hx hb d_B_round_1 (by decide) ?_
  refine W.lcmp hx hb d_B_round_2 ?_
  refine lv_if_ne (tgt := 8) hx hb d_B_round_3 (by decide) (fun c_3 => ?_) (fun c_3 => ?_)
  · have hf := (zbr hf).2 (zc_neq c_3)
    refine lv_lload_n hx hb d_B_round_8 rfl (lv_at hl 1 rfl) ?_
    obtain ⟨o_9, ho_9, hf⟩ := zbd hf
    refine zSi (isC := []) (isR := []) (isN := []) (wc := []) (wr := []) (wn := fun u => []) (rest := []) (As := [.long x2]) hF zn_B_25 (k_B_lift κ X hX l H.size x2 o_9 ho_9) hX hXs hK hA hP hD hS ⟨by decide, by decide⟩ ⟨rfl, rfl, rfl, rfl, rfl, by decide⟩ ⟨rfl, fun _ => rfl, fun _ => rfl⟩ rfl hl.1 rfl (Nat.le_of_ble_eq_true rfl) ⟨Nat.zero_le _, Nat.zero_le _⟩ d_B_round_9 (fun r_9 u H locs hw hP hD hS => ?_)
    subst hw
    refine lv_ineg hx hb d_B_round_12 ?_
    refine lv_sipush (v := (-1074)) hx hb d_B_round_13 (by decide) ?_
    refine lv_iload hx hb d_B_round_16 (lv_at hl 2 rfl) ?_
    refine lv_isub hx hb d_B_round_18 ?_
    refine va_mmax hx hb (hml.trans hl.1.symm) hown (hts _ zml_B_28) (hts _ zst_JM_max) (hts _ zin_JM) (hts _ zco_JM_max) (by decide) (Nat.le_of_ble_eq_true rfl) (Nat.zero_le _) (Nat.zero_le _) d_B_round_19 ?_
    refine lv_istore (lv' := [(5, .int (if (-r_9) < ((-1074) - x4) then ((-1074) - x4) else (-r_9))), (0, .long x0), (2, .long x2), (4, .int x4)]) hx hb d_B_round_22 hl (by decide) rfl (fun ls hl => ?_)
    refine lv_iload hx hb d_B_round_24 (lv_at hl 0 rfl) ?_
    refine lv_bipush (v := 63) hx hb d_B_round_26 (by decide) ?_
    refine lv_icmp_le (tgt := 33) hx hb d_B_round_28 (by decide) (fun c_28 => ?_) (fun c_28 => ?_)
    · have hf := (zbr hf).1 c_28
      refine lv_iload hx hb d_B_round_33 (lv_at hl 3 rfl) ?_
      refine lv_iload hx hb d_B_round_35 (lv_at hl 0 rfl) ?_
      refine lv_iadd hx hb d_B_round_37 ?_
      refine lv_istore (lv' := [(6, .int (x4 + (if (-r_9) < ((-1074) - x4) then ((-1074) - x4) else (-r_9)))), (5, .int (if (-r_9) < ((-1074) - x4) then ((-1074) - x4) else (-r_9))), (0, .long x0), (2, .long x2), (4, .int x4)]) hx hb d_B_round_38 hl (by decide) rfl (fun ls hl => ?_)
      refine lv_iload hx hb d_B_round_40 (lv_at hl 0 rfl) ?_
      refine lv_sipush (v := 971) hx hb d_B_round_42 (by decide) ?_
      refine lv_icmp_le (tgt := 54) hx hb d_B_round_45 (by decide) (fun c_45 => ?_) (fun c_45 => ?_)
      · have hf := (zbr hf).1 c_45
        refine lv_iload hx hb d_B_round_54 (lv_at hl 1 rfl) ?_
        refine lv_if_le (tgt := 68) hx hb d_B_round_56 (by decide) (fun c_56 => ?_) (fun c_56 => ?_)
        · have hf := (zbr hf).1 c_56
          refine lv_lload_n hx hb d_B_round_68 rfl (lv_at hl 3 rfl) ?_
          refine lv_iload hx hb d_B_round_69 (lv_at hl 1 rfl) ?_
          refine lv_ineg hx hb d_B_round_71 ?_
          refine lv_lshl (v := (jlshl x2 (-(if (-r_9) < ((-1074) - x4) then ((-1074) - x4) else (-r_9))))) hx hb d_B_round_72 rfl ?_
          exact b_73 x0 (x4 + (if (-r_9) < ((-1074) - x4) then ((-1074) - x4) else (-r_9))) (jlshl x2 (-(if (-r_9) < ((-1074) - x4) then ((-1074) - x4) else (-r_9)))) H locs ls hf hP hD hS (lv_sub hl [2, 0] rfl)
        · have hf := (zbr hf).2 c_56
          refine lv_lload_n hx hb d_B_round_59 rfl (lv_at hl 3 rfl) ?_
          refine lv_iload hx hb d_B_round_60 (lv_at hl 1 rfl) ?_
          obtain ⟨o_62, ho_62, hf⟩ := zbd hf
          refine zSl (isC := []) (isR := []) (isN := []) (wc := []) (wr := []) (wn := fun u => []) (rest := []) (As := [.long x2, .int (if (-r_9) < ((-1074) - x4) then ((-1074) - x4) else (-r_9))]) hF zn_B_34 (k_B_shiftDownToNearest κ X hX l H.size x2 (if (-r_9) < ((-1074) - x4) then ((-1074) - x4) else (-r_9)) o_62 ho_62) hX hXs hK hA hP hD hS ⟨by decide, by decide⟩ ⟨rfl, rfl, rfl, rfl, rfl, by decide⟩ ⟨rfl, fun _ => rfl, fun _ => rfl⟩ rfl hl.1 rfl (Nat.le_of_ble_eq_true rfl) ⟨Nat.zero_le _, Nat.zero_le _⟩ d_B_round_62 (fun r_62 u H locs hw hP hD hS => ?_)
          subst hw
          refine lv_goto (tgt := 73) hx hb d_B_round_65 (by decide) ?_
          exact b_73 x0 (x4 + (if (-r_9) < ((-1074) - x4) then ((-1074) - x4) else (-r_9))) r_62 H locs ls hf hP hD hS (lv_sub hl [2, 0] rfl)
      · have hf := (zbr hf).2 c_45
        refine lv_lload_n hx hb d_B_round_48 rfl (lv_at hl 2 rfl) ?_
        refine lv_ldc2 (v := 9218868437227405312) hx hb hown (hts _ zkl_B_15) d_B_round_49 ?_
        refine lv_lor hx hb d_B_round_52 ?_
        exact hret ((x0 ||| 9218868437227405312)) () H locs ls _ d_B_round_53 hP hD hS (Option.some.inj hf)
    · have hf := (zbr hf).2 c_28
      refine lv_lload_n hx hb d_B_round_31 rfl (lv_at hl 1 rfl) ?_
      exact hret (x0) () H locs ls _ d_B_round_32 hP hD hS (Option.some.inj hf)
  · have hf := (zbr hf).1 (zc_eq.mp c_3)
    refine lv_lload_n hx hb d_B_round_6 rfl (lv_at hl 0 rfl) ?_
    exact hret (x0) () H locs ls _ d_B_round_7 hP hD hS (Option.some.inj hf)
