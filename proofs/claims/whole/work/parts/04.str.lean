/-! the JDK's String members over the literals -/
theorem d_JS_coder_0 : decode c_JS_coder 0 = .ok (.getstatic 38, 3) := by decide +kernel
theorem d_JS_coder_3 : decode c_JS_coder 3 = .ok (.ifCond .eq 10, 3) := by decide +kernel
theorem d_JS_coder_6 : decode c_JS_coder 6 = .ok (.aload_n 0, 1) := by decide +kernel
theorem d_JS_coder_7 : decode c_JS_coder 7 = .ok (.getfield 15, 3) := by decide +kernel
theorem d_JS_coder_10 : decode c_JS_coder 10 = .ok (.goto 4, 3) := by decide +kernel
theorem d_JS_coder_14 : decode c_JS_coder 14 = .ok (.ireturn, 1) := by decide +kernel
theorem d_JS_isLatin1_0 : decode c_JS_isLatin1 0 = .ok (.getstatic 38, 3) := by decide +kernel
theorem d_JS_isLatin1_3 : decode c_JS_isLatin1 3 = .ok (.ifCond .eq 14, 3) := by decide +kernel
theorem d_JS_isLatin1_6 : decode c_JS_isLatin1 6 = .ok (.aload_n 0, 1) := by decide +kernel
theorem d_JS_isLatin1_7 : decode c_JS_isLatin1 7 = .ok (.getfield 15, 3) := by decide +kernel
theorem d_JS_isLatin1_10 : decode c_JS_isLatin1 10 = .ok (.ifCond .ne 7, 3) := by decide +kernel
theorem d_JS_isLatin1_13 : decode c_JS_isLatin1 13 = .ok (.iconst 1, 1) := by decide +kernel
theorem d_JS_isLatin1_14 : decode c_JS_isLatin1 14 = .ok (.goto 4, 3) := by decide +kernel
theorem d_JS_isLatin1_18 : decode c_JS_isLatin1 18 = .ok (.ireturn, 1) := by decide +kernel
theorem d_JS_length_0 : decode c_JS_length 0 = .ok (.aload_n 0, 1) := by decide +kernel
theorem d_JS_length_1 : decode c_JS_length 1 = .ok (.getfield 9, 3) := by decide +kernel
theorem d_JS_length_4 : decode c_JS_length 4 = .ok (.arraylength, 1) := by decide +kernel
theorem d_JS_length_5 : decode c_JS_length 5 = .ok (.aload_n 0, 1) := by decide +kernel
theorem d_JS_length_6 : decode c_JS_length 6 = .ok (.invokevirtual 335, 3) := by decide +kernel
theorem d_JS_length_9 : decode c_JS_length 9 = .ok (.ishr, 1) := by decide +kernel
theorem d_JS_length_10 : decode c_JS_length 10 = .ok (.ireturn, 1) := by decide +kernel
theorem d_JS_charAt_0 : decode c_JS_charAt 0 = .ok (.aload_n 0, 1) := by decide +kernel
theorem d_JS_charAt_1 : decode c_JS_charAt 1 = .ok (.invokevirtual 492, 3) := by decide +kernel
theorem d_JS_charAt_4 : decode c_JS_charAt 4 = .ok (.ifCond .eq 12, 3) := by decide +kernel
theorem d_JS_charAt_7 : decode c_JS_charAt 7 = .ok (.aload_n 0, 1) := by decide +kernel
theorem d_JS_charAt_8 : decode c_JS_charAt 8 = .ok (.getfield 9, 3) := by decide +kernel
theorem d_JS_charAt_11 : decode c_JS_charAt 11 = .ok (.iload_n 1, 1) := by decide +kernel
theorem d_JS_charAt_12 : decode c_JS_charAt 12 = .ok (.invokestatic 495, 3) := by decide +kernel
theorem d_JS_charAt_15 : decode c_JS_charAt 15 = .ok (.ireturn, 1) := by decide +kernel
theorem d_JS_checkIndex_0 : decode c_JS_checkIndex 0 = .ok (.iload_n 0, 1) := by decide +kernel
theorem d_JS_checkIndex_1 : decode c_JS_checkIndex 1 = .ok (.iload_n 1, 1) := by decide +kernel
theorem d_JS_checkIndex_2 : decode c_JS_checkIndex 2 = .ok (.getstatic 1053, 3) := by decide +kernel
theorem d_JS_checkIndex_5 : decode c_JS_checkIndex 5 = .ok (.invokestatic 1059, 3) := by decide +kernel
theorem d_JS_checkIndex_8 : decode c_JS_checkIndex 8 = .ok (.pop, 1) := by decide +kernel
theorem d_JS_checkIndex_9 : decode c_JS_checkIndex 9 = .ok (.return_, 1) := by decide +kernel
theorem d_JL_charAt_0 : decode c_JL_charAt 0 = .ok (.iload_n 1, 1) := by decide +kernel
theorem d_JL_charAt_1 : decode c_JL_charAt 1 = .ok (.aload_n 0, 1) := by decide +kernel
theorem d_JL_charAt_2 : decode c_JL_charAt 2 = .ok (.arraylength, 1) := by decide +kernel
theorem d_JL_charAt_3 : decode c_JL_charAt 3 = .ok (.invokestatic 9, 3) := by decide +kernel
theorem d_JL_charAt_6 : decode c_JL_charAt 6 = .ok (.aload_n 0, 1) := by decide +kernel
theorem d_JL_charAt_7 : decode c_JL_charAt 7 = .ok (.iload_n 1, 1) := by decide +kernel
theorem d_JL_charAt_8 : decode c_JL_charAt 8 = .ok (.baload, 1) := by decide +kernel
theorem d_JL_charAt_9 : decode c_JL_charAt 9 = .ok (.sipush 255, 3) := by decide +kernel
theorem d_JL_charAt_12 : decode c_JL_charAt 12 = .ok (.iand, 1) := by decide +kernel
theorem d_JL_charAt_13 : decode c_JL_charAt 13 = .ok (.i2c, 1) := by decide +kernel
theorem d_JL_charAt_14 : decode c_JL_charAt 14 = .ok (.ireturn, 1) := by decide +kernel
theorem d_JP_checkIndex_0 : decode c_JP_checkIndex 0 = .ok (.iload_n 0, 1) := by decide +kernel
theorem d_JP_checkIndex_1 : decode c_JP_checkIndex 1 = .ok (.ifCond .lt 8, 3) := by decide +kernel
theorem d_JP_checkIndex_4 : decode c_JP_checkIndex 4 = .ok (.iload_n 0, 1) := by decide +kernel
theorem d_JP_checkIndex_5 : decode c_JP_checkIndex 5 = .ok (.iload_n 1, 1) := by decide +kernel
theorem d_JP_checkIndex_6 : decode c_JP_checkIndex 6 = .ok (.if_icmp .lt 10, 3) := by decide +kernel
theorem d_JP_checkIndex_16 : decode c_JP_checkIndex 16 = .ok (.iload_n 0, 1) := by decide +kernel
theorem d_JP_checkIndex_17 : decode c_JP_checkIndex 17 = .ok (.ireturn, 1) := by decide +kernel
theorem zn_JS_335 : zNV "java/lang/String" 335 y_JS_coder c_JS_coder 1 (some .byte) 0 := ⟨zco_JS_coder, zin_JS, zml_JS_335, zim_JS_coder, zse_JS_JS_coder, by decide +kernel⟩
theorem zn_JS_492 : zNV "java/lang/String" 492 y_JS_isLatin1 c_JS_isLatin1 1 (some .boolean) 0 := ⟨zco_JS_isLatin1, zin_JS, zml_JS_492, zim_JS_isLatin1, zse_JS_JS_isLatin1, by decide +kernel⟩
theorem zn_JS_495 : zNS "java/lang/String" 495 y_JL_charAt c_JL_charAt 2 (some .char) 2 := ⟨zco_JL_charAt, zin_JL, zml_JS_495, zst_JL_charAt, by decide +kernel⟩
theorem zn_JL_9 : zNS "java/lang/StringLatin1" 9 y_JS_checkIndex c_JS_checkIndex 2 none 2 := ⟨zco_JS_checkIndex, zin_JS, zml_JL_9, zst_JS_checkIndex, by decide +kernel⟩
theorem zn_JS_1059 : zNS "java/lang/String" 1059 y_JP_checkIndex c_JP_checkIndex 3 (some .int) 3 := ⟨zco_JP_checkIndex, zin_JP, zml_JS_1059, zst_JP_checkIndex, by decide +kernel⟩
theorem k_JS_coder (κ : zC) (X : zXT) (hX : zX κ X) (l : Launch) (sz w : Nat) (hw : w < 5) : zMet κ X l y_JS_coder c_JS_coder 1 (some .byte) 0 0 [.ref (κ.2.2.2.2 w)] sz [] (zQi κ (fun (r : Int32) (_ : Unit) => r = 0) (fun _ => [])) := by
  refine zMet.ofZ (by decide +kernel) (Nat.le_of_ble_eq_true rfl) ?_
  intro p e s m args below meth c ls A Q hF hK hP hD hA hXs hS hl hret
  obtain ⟨hx, hb, hml, hown, hts⟩ := id hF
  obtain ⟨av, hZ⟩ := hX.2
  obtain ⟨-, -, hC, -, hst, -⟩ := hZ _ _ _ hXs
  have hs := hst w hw
  replace hl : lv_has ls 1 [(0, .ref (κ.2.2.2.2 w))] := hl
  refine va_gets hx hb hC hS hown (hts _ zfl_JS_38) (fun _ h => h) d_JS_coder_0 ?_
  refine lv_if_eq (tgt := 13) hx hb d_JS_coder_3 (by decide) (fun c => absurd c (by decide)) (fun c => ?_)
  refine lv_aload_n hx hb d_JS_coder_6 rfl (lv_at hl 0 rfl) ?_
  refine vk_getf hx hb hs.2.1 hS hown (hts _ zfl_JS_15) (fun _ h => h) d_JS_coder_7 ?_
  refine lv_goto (tgt := 14) hx hb d_JS_coder_10 (by decide) ?_
  exact hret 0 () _ _ ls _ d_JS_coder_14 hP hD hS (by decide) rfl
theorem k_JS_isLatin1 (κ : zC) (X : zXT) (hX : zX κ X) (l : Launch) (sz w : Nat) (hw : w < 5) : zMet κ X l y_JS_isLatin1 c_JS_isLatin1 1 (some .boolean) 0 0 [.ref (κ.2.2.2.2 w)] sz [] (zQi κ (fun (r : Int32) (_ : Unit) => r = 1) (fun _ => [])) := by
  refine zMet.ofZ (by decide +kernel) (Nat.le_of_ble_eq_true rfl) ?_
  intro p e s m args below meth c ls A Q hF hK hP hD hA hXs hS hl hret
  obtain ⟨hx, hb, hml, hown, hts⟩ := id hF
  obtain ⟨av, hZ⟩ := hX.2
  obtain ⟨-, -, hC, -, hst, -⟩ := hZ _ _ _ hXs
  have hs := hst w hw
  replace hl : lv_has ls 1 [(0, .ref (κ.2.2.2.2 w))] := hl
  refine va_gets hx hb hC hS hown (hts _ zfl_JS_38) (fun _ h => h) d_JS_isLatin1_0 ?_
  refine lv_if_eq (tgt := 17) hx hb d_JS_isLatin1_3 (by decide) (fun c => absurd c (by decide)) (fun c => ?_)
  refine lv_aload_n hx hb d_JS_isLatin1_6 rfl (lv_at hl 0 rfl) ?_
  refine vk_getf hx hb hs.2.1 hS hown (hts _ zfl_JS_15) (fun _ h => h) d_JS_isLatin1_7 ?_
  refine lv_if_ne (tgt := 17) hx hb d_JS_isLatin1_10 (by decide) (fun c => absurd rfl c) (fun c => ?_)
  refine lv_iconst (v := 1) hx hb d_JS_isLatin1_13 (by decide) ?_
  refine lv_goto (tgt := 18) hx hb d_JS_isLatin1_14 (by decide) ?_
  exact hret 1 () _ _ ls _ d_JS_isLatin1_18 hP hD hS (by decide) rfl
theorem k_JP_checkIndex (κ : zC) (X : zXT) (hX : zX κ X) (l : Launch) (sz : Nat) (k n : Int32) (v : Value) (hv : v = .null ∨ ∃ a : Nat, v = .ref a) (h0 : ¬ k < 0) (h1 : k < n) : zMet κ X l y_JP_checkIndex c_JP_checkIndex 3 (some .int) 0 0 [.int k, .int n, v] sz [] (zQi κ (fun (r : Int32) (_ : Unit) => r = k) (fun _ => [])) := by
  refine zMet.ofI (by decide +kernel) (by rcases hv with rfl | ⟨a, rfl⟩ <;> exact Nat.le_of_ble_eq_true rfl) ?_
  intro p e s m args below meth c ls A Q hF hK hP hD hA hXs hS hl hret
  obtain ⟨hx, hb, hml, hown, hts⟩ := id hF
  replace hl : lv_has ls 3 [(0, .int k), (1, .int n), (2, v)] := hl
  refine lv_iload_n hx hb d_JP_checkIndex_0 rfl (lv_at hl 0 rfl) ?_
  refine lv_if_lt (tgt := 9) hx hb d_JP_checkIndex_1 (by decide) (fun c => absurd c h0) (fun c => ?_)
  refine lv_iload_n hx hb d_JP_checkIndex_4 rfl (lv_at hl 0 rfl) ?_
  refine lv_iload_n hx hb d_JP_checkIndex_5 rfl (lv_at hl 1 rfl) ?_
  refine lv_icmp_lt (tgt := 16) hx hb d_JP_checkIndex_6 (by decide) (fun c => ?_) (fun c => absurd h1 c)
  refine lv_iload_n hx hb d_JP_checkIndex_16 rfl (lv_at hl 0 rfl) ?_
  exact hret k () _ _ ls _ d_JP_checkIndex_17 hP hD hS rfl
theorem k_JS_checkIndex (κ : zC) (X : zXT) (hX : zX κ X) (l : Launch) (sz : Nat) (k n : Int32) (h0 : ¬ k < 0) (h1 : k < n) : zMet κ X l y_JS_checkIndex c_JS_checkIndex 2 none 1 22 [.int k, .int n] sz [] (zQv κ (fun (_ : Unit) => True) (fun _ => [])) := by
  refine zMet.ofV (by decide +kernel) (Nat.le_of_ble_eq_true rfl) ?_
  intro p e s m args below meth c ls A Q hF hK hP hD hA hXs hS hl hret
  obtain ⟨hx, hb, hml, hown, hts⟩ := id hF
  obtain ⟨av, hZ⟩ := hX.2
  obtain ⟨-, -, -, ⟨v, hv, hsf⟩, -⟩ := hZ _ _ _ hXs
  replace hl : lv_has ls 2 [(0, .int k), (1, .int n)] := hl
  refine lv_iload_n hx hb d_JS_checkIndex_0 rfl (lv_at hl 0 rfl) ?_
  refine lv_iload_n hx hb d_JS_checkIndex_1 rfl (lv_at hl 1 rfl) ?_
  refine va_gets hx hb hsf hS hown (hts _ zfl_JS_1053) (fun _ h => h) d_JS_checkIndex_2 ?_
  refine zSi (isC := []) (isR := []) (isN := []) (wc := []) (wr := []) (wn := fun _ => []) (rest := []) (As := [.int k, .int n, v]) hF zn_JS_1059 (k_JP_checkIndex κ X hX l _ k n v hv h0 h1) hX hXs hK hA hP hD hS ⟨by decide, by decide⟩ ⟨rfl, rfl, rfl, rfl, rfl, by decide⟩ ⟨rfl, fun _ => rfl, fun _ => rfl⟩ rfl hl.1 rfl (Nat.le_of_ble_eq_true rfl) ⟨Nat.zero_le _, Nat.zero_le _⟩ d_JS_checkIndex_5 (fun r u H locs hw hP hD hS => ?_)
  refine lv_pop hx hb d_JS_checkIndex_8 rfl ?_
  exact hret () _ _ ls _ d_JS_checkIndex_9 hP hD hS trivial
theorem k_JL_charAt (κ : zC) (X : zXT) (hX : zX κ X) (l : Launch) (sz a n : Nat) (bs : List Int32) (hT : ∀ A U H, X A U H → va_T .byte a n (fun j => .int (bs.getD j 0)) A U H) (hn : n < 2 ^ 31) (k : Int32) (hk : zin k n) : zMet κ X l y_JL_charAt c_JL_charAt 2 (some .char) 2 43 [.ref a, .int k] sz [] (zQi κ (fun (r : Int32) (_ : Unit) => r = ji2c (bs.getD k.toNatClampNeg 0 &&& 255)) (fun _ => [])) := by
  refine zMet.ofZ (by decide +kernel) (Nat.le_of_ble_eq_true rfl) ?_
  intro p e s m args below meth c ls A Q hF hK hP hD hA hXs hS hl hret
  obtain ⟨hx, hb, hml, hown, hts⟩ := id hF
  have hT1 := hT _ _ _ hXs
  have hk1 : ¬ k < 0 := fun q => by rw [Int32.lt_iff_toInt_lt] at q; have := hk.1; simp at q; omega
  have hk2 : k < nI n := by rw [Int32.lt_iff_toInt_lt, nI_toInt hn]; exact hk.2
  replace hl : lv_has ls 2 [(0, .ref a), (1, .int k)] := hl
  refine lv_iload_n hx hb d_JL_charAt_0 rfl (lv_at hl 1 rfl) ?_
  refine lv_aload_n hx hb d_JL_charAt_1 rfl (lv_at hl 0 rfl) ?_
  refine va_tlen hx hb hT1 hS (v := nI n) rfl d_JL_charAt_2 ?_
  refine zSv (isC := []) (isR := []) (isN := []) (wc := []) (wr := []) (wn := fun _ => []) (rest := []) (As := [.int k, .int (nI n)]) hF zn_JL_9 (k_JS_checkIndex κ X hX l _ k (nI n) hk1 hk2) hX hXs hK hA hP hD hS ⟨by decide, by decide⟩ ⟨rfl, rfl, rfl, rfl, rfl, by decide⟩ ⟨rfl, fun _ => rfl, fun _ => rfl⟩ rfl hl.1 rfl (Nat.le_of_ble_eq_true rfl) ⟨Nat.zero_le _, Nat.zero_le _⟩ d_JL_charAt_3 (fun u H locs hw hP hD hS => ?_)
  refine lv_aload_n hx hb d_JL_charAt_6 rfl (lv_at hl 0 rfl) ?_
  refine lv_iload_n hx hb d_JL_charAt_7 rfl (lv_at hl 1 rfl) ?_
  refine va_tb hx hb hT1 hS (zin_vp hk) rfl d_JL_charAt_8 ?_
  refine lv_sipush (v := 255) hx hb d_JL_charAt_9 (by decide) ?_
  refine lv_iand hx hb d_JL_charAt_12 ?_
  refine lv_i2c hx hb d_JL_charAt_13 rfl ?_
  exact hret _ () _ _ ls _ d_JL_charAt_14 hP hD hS (pk_nc _) rfl
theorem k_JS_length (κ : zC) (X : zXT) (hX : zX κ X) (l : Launch) (sz w : Nat) (hw : w < 5) : zMet κ X l y_JS_length c_JS_length 1 (some .int) 1 20 [.ref (κ.2.2.2.2 w)] sz [] (zQi κ (fun (r : Int32) (_ : Unit) => r = zslen w) (fun _ => [])) := by
  refine zMet.ofI (by decide +kernel) (Nat.le_of_ble_eq_true rfl) ?_
  intro p e s m args below meth c ls A Q hF hK hP hD hA hXs hS hl hret
  obtain ⟨hx, hb, hml, hown, hts⟩ := id hF
  obtain ⟨av, hZ⟩ := hX.2
  obtain ⟨-, -, hC, -, hst, -⟩ := hZ _ _ _ hXs
  have hs := hst w hw
  replace hl : lv_has ls 1 [(0, .ref (κ.2.2.2.2 w))] := hl
  refine lv_aload_n hx hb d_JS_length_0 rfl (lv_at hl 0 rfl) ?_
  refine vk_getf hx hb hs.2.2.1 hS hown (hts _ zfl_JS_9) (fun _ h => h) d_JS_length_1 ?_
  refine va_tlen hx hb hs.2.2.2 hS (v := zslen w) rfl d_JS_length_4 ?_
  refine lv_aload_n hx hb d_JS_length_5 rfl (lv_at hl 0 rfl) ?_
  refine zVs (isC := []) (isR := []) (isN := []) (wc := []) (wr := []) (wn := fun _ => []) (rest := [.int (zslen w)]) (As := []) hF zn_JS_335 (k_JS_coder κ X hX l _ w hw) hX hXs hK hA hP hD hS ⟨by decide, by decide⟩ ⟨rfl, rfl, rfl, rfl, rfl, by decide⟩ ⟨rfl, fun _ => rfl, fun _ => rfl⟩ hs.1 rfl hl.1 rfl (Nat.le_of_ble_eq_true rfl) ⟨Nat.zero_le _, Nat.zero_le _⟩ d_JS_length_6 (fun r u H locs hw hP hD hS => ?_)
  subst hw
  refine lv_ishr hx hb d_JS_length_9 ?_
  rw [sb_shr0]
  exact hret _ () _ _ ls _ d_JS_length_10 hP hD hS rfl
theorem k_JS_charAt (κ : zC) (X : zXT) (hX : zX κ X) (l : Launch) (sz w : Nat) (hw : w < 5) (k : Int32) (hk : zin k (zsb w).length) : zMet κ X l y_JS_charAt c_JS_charAt 2 (some .char) 3 64 [.ref (κ.2.2.2.2 w), .int k] sz [] (zQi κ (fun (r : Int32) (_ : Unit) => r = zsch w k) (fun _ => [])) := by
  refine zMet.ofZ (by decide +kernel) (Nat.le_of_ble_eq_true rfl) ?_
  intro p e s m args below meth c ls A Q hF hK hP hD hA hXs hS hl hret
  obtain ⟨hx, hb, hml, hown, hts⟩ := id hF
  obtain ⟨av, hZ⟩ := hX.2
  obtain ⟨-, -, hC, -, hst, -⟩ := hZ _ _ _ hXs
  have hs := hst w hw
  have hT : ∀ A U H, X A U H → va_T .byte (av w) (zsb w).length (fun j => .int ((zsb w).getD j 0)) A U H := fun A U H h => ((hZ A U H h).2.2.2.2.1 w hw).2.2.2
  replace hl : lv_has ls 2 [(0, .ref (κ.2.2.2.2 w)), (1, .int k)] := hl
  refine lv_aload_n hx hb d_JS_charAt_0 rfl (lv_at hl 0 rfl) ?_
  refine zVs (isC := []) (isR := []) (isN := []) (wc := []) (wr := []) (wn := fun _ => []) (rest := []) (As := []) hF zn_JS_492 (k_JS_isLatin1 κ X hX l _ w hw) hX hXs hK hA hP hD hS ⟨by decide, by decide⟩ ⟨rfl, rfl, rfl, rfl, rfl, by decide⟩ ⟨rfl, fun _ => rfl, fun _ => rfl⟩ hs.1 rfl hl.1 rfl (Nat.le_of_ble_eq_true rfl) ⟨Nat.zero_le _, Nat.zero_le _⟩ d_JS_charAt_1 (fun r u H locs hw hP hD hS => ?_)
  subst hw
  refine lv_if_eq (tgt := 16) hx hb d_JS_charAt_4 (by decide) (fun c => absurd c (by decide)) (fun c => ?_)
  refine lv_aload_n hx hb d_JS_charAt_7 rfl (lv_at hl 0 rfl) ?_
  refine vk_getf hx hb hs.2.2.1 hS hown (hts _ zfl_JS_9) (fun _ h => h) d_JS_charAt_8 ?_
  refine lv_iload_n hx hb d_JS_charAt_11 rfl (lv_at hl 1 rfl) ?_
  refine zSi (isC := []) (isR := []) (isN := []) (wc := []) (wr := []) (wn := fun _ => []) (rest := []) (As := [.ref (av w), .int k]) hF zn_JS_495 (k_JL_charAt κ X hX l _ (av w) (zsb w).length (zsb w) hT (zsb_len w) k hk) hX hXs hK hA hP hD hS ⟨by decide, by decide⟩ ⟨rfl, rfl, rfl, rfl, rfl, by decide⟩ ⟨rfl, fun _ => rfl, fun _ => rfl⟩ rfl hl.1 rfl (Nat.le_of_ble_eq_true rfl) ⟨Nat.zero_le _, Nat.zero_le _⟩ d_JS_charAt_12 (fun r u H locs hw hP hD hS => ?_)
  subst hw
  exact hret _ () _ _ ls _ d_JS_charAt_15 hP hD hS (pk_nc _) rfl
