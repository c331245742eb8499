/-- what a wrapper answers -/
def zrk (k : Nat) : Int32 := if k = 2 then 2 else 1
theorem zkeepP {κ : zC} {ws : va_W} {H H1 : Heap} (hP : zP κ ws H) (hold : ∀ q : Nat, q < H.size → H1[q]? = H[q]?) : zP κ ws H1 := va_P.kept hP (fun k q hk => hold q.1 (hP k q hk).lt)
theorem zkeepS {A : Nat → Prop} {H0 H H1 : Heap} {locs : List Loc} (hS : va_S A H0 H locs) (hsz : H.size ≤ H1.size) (hold : ∀ q : Nat, q < H.size → H1[q]? = H[q]?) : va_S A H0 H1 locs := ⟨Nat.le_trans hS.1 hsz, fun q h1 h2 => (hold q (Nat.lt_of_lt_of_le h1 hS.1)).trans (hS.2.1 q h1 h2), hS.2.2⟩
theorem zpass {X : zXT} (hXE : zXE X) {A : Nat → Prop} {s : State} (hXs : X A s s.heap) {l : Launch} {e : Env} (ha : l.admits e) {d : ClassId} {pc : Nat} {own : String} {args : Array Value} (hown : s.vm.findClass own = some d) {cX : ClassId} (hcX : s.vm.findClass "java/lang/IllegalStateException" = some cX) {x : ExceptionTableEntry} {t : List ExceptionTableEntry} {h : Nat} (hcov : covers x pc = true) (h0 : x.catchType ≠ 0) (hlk : (Cond.classLink own x.catchType "java/lang/IllegalArgumentException").before args s = true) (hr : zCat e s d pc cX h t) : zCat e s d pc cX h (x :: t) := by
  obtain ⟨-, -, -, a, b, h1, h2, h3⟩ := hXE _ _ _ hXs
  cases hcX.symm.trans h1
  exact zcat_tl ha hown hcov h0 hlk h2 h3 hr
theorem t_D_put_k {a1 a2 a3 a4 a5 : Int32} {u : Nat → Int32} {x1 : Int64} {x3 : Int32} {k : Nat} (h : t_D_put a1 a2 a3 a4 a5 u x1 x3 = some k) : k = 1 ∨ k = 2 := by
  unfold t_D_put at h
  split at h
  · left; exact (Option.some.inj h).symm
  · split at h
    · obtain ⟨r, hr, h⟩ := zbd h
      split at h
      · right; exact (Option.some.inj h).symm
      · cases h
    · left; exact (Option.some.inj h).symm
theorem t_D_reckon_k {x1 : Int64} {x3 : Int64} {x5 : Int32} {k : Nat} (h : t_D_reckon x1 x3 x5 = some k) : k = 1 := by
  unfold t_D_reckon at h
  repeat' split at h
  all_goals first | (cases h; rfl) | cases h
theorem t_D_turn_k {x1 : Int64} {x3 : Int32} {k : Nat} (h : t_D_turn x1 x3 = some k) : k = 1 := by
  unfold t_D_turn at h
  repeat' split at h
  all_goals first | (cases h; rfl) | cases h
theorem t_D_whole_k {x1 : Int64} {x3 : Int32} {k : Nat} (h : t_D_whole x1 x3 = some k) : k = 1 := by
  unfold t_D_whole at h
  repeat' split at h
  all_goals first | (cases h; rfl) | cases h
theorem t_D_radix_k {t_page_count : Int32} {t_page_units : Nat → Int32} {t_writer_natural_used : Int32} {t_writer_natural_limbs : Nat → Int32} {x1 : Int64} {x3 : Int32} {k : Nat} (h : t_D_radix t_page_count t_page_units t_writer_natural_used t_writer_natural_limbs x1 x3 = some k) : k = 1 := by
  unfold t_D_radix at h
  repeat' split at h
  all_goals first | (cases h; rfl) | cases h
theorem t_D_form_k {t_page_count : Int32} {t_page_units : Nat → Int32} {t_writer_decimal_count : Int32} {t_writer_decimal_point : Int32} {t_writer_decimal_digits : Nat → Int32} {t_writer_decimal_rest_used : Int32} {t_writer_decimal_rest_limbs : Nat → Int32} {t_writer_decimal_scale_used : Int32} {t_writer_decimal_scale_limbs : Nat → Int32} {t_writer_decimal_below_used : Int32} {t_writer_decimal_below_limbs : Nat → Int32} {t_writer_decimal_above_used : Int32} {t_writer_decimal_above_limbs : Nat → Int32} {t_writer_decimal_sum_used : Int32} {t_writer_decimal_sum_limbs : Nat → Int32} {x1 : Int64} {x3 : Int32} {x4 : Int32} {k : Nat} (h : t_D_form t_page_count t_page_units t_writer_decimal_count t_writer_decimal_point t_writer_decimal_digits t_writer_decimal_rest_used t_writer_decimal_rest_limbs t_writer_decimal_scale_used t_writer_decimal_scale_limbs t_writer_decimal_below_used t_writer_decimal_below_limbs t_writer_decimal_above_used t_writer_decimal_above_limbs t_writer_decimal_sum_used t_writer_decimal_sum_limbs x1 x3 x4 = some k) : k = 1 := by
  unfold t_D_form at h
  repeat' split at h
  all_goals first | (cases h; rfl) | cases h
theorem t_D_unit_k {t_page_count : Int32} {t_page_units : Nat → Int32} {x1 : Int32} {k : Nat} (h : t_D_unit t_page_count t_page_units x1 = some k) : k = 3 := by
  unfold t_D_unit f_T_length f_P_length at h
  rw [Option.bind_some, Option.bind_some] at h
  repeat' split at h
  all_goals first | (cases h; rfl) | cases h
theorem d_L_put_0 : decode c_L_put 0 = .ok (.aload 4, 2) := by decide +kernel
theorem d_L_put_2 : decode c_L_put 2 = .ok (.iconst 0, 1) := by decide +kernel
theorem d_L_put_3 : decode c_L_put 3 = .ok (.aload_n 0, 1) := by decide +kernel
theorem d_L_put_4 : decode c_L_put 4 = .ok (.lload_n 1, 1) := by decide +kernel
theorem d_L_put_5 : decode c_L_put 5 = .ok (.iload_n 3, 1) := by decide +kernel
theorem d_L_put_6 : decode c_L_put 6 = .ok (.invokevirtual 7, 3) := by decide +kernel
theorem d_L_put_9 : decode c_L_put 9 = .ok (.i2l, 1) := by decide +kernel
theorem d_L_put_10 : decode c_L_put 10 = .ok (.lastore, 1) := by decide +kernel
theorem d_L_put_11 : decode c_L_put 11 = .ok (.goto 11, 3) := by decide +kernel
theorem d_L_put_14 : decode c_L_put 14 = .ok (.astore 5, 2) := by decide +kernel
theorem d_L_put_16 : decode c_L_put 16 = .ok (.iconst 1, 1) := by decide +kernel
theorem d_L_put_17 : decode c_L_put 17 = .ok (.ireturn, 1) := by decide +kernel
theorem d_L_put_18 : decode c_L_put 18 = .ok (.astore 5, 2) := by decide +kernel
theorem d_L_put_20 : decode c_L_put 20 = .ok (.iconst 2, 1) := by decide +kernel
theorem d_L_put_21 : decode c_L_put 21 = .ok (.ireturn, 1) := by decide +kernel
theorem d_L_put_22 : decode c_L_put 22 = .ok (.iconst 0, 1) := by decide +kernel
theorem d_L_put_23 : decode c_L_put 23 = .ok (.ireturn, 1) := by decide +kernel
noncomputable def w_L_put (o_reader_count : Int32) (o_reader_at : Int32) (o_reader_end : Int32) (o_reader_counting : Int32) (o_reader_power : Int32) (o_reader_units : Nat → Int32) (q : Nat → Int64) (x1 : Int64) (x3 : Int32) : Option (Int32 × ((Int32) × (Nat → Int32) × (Nat → Int64))) :=
  (t_D_put o_reader_count o_reader_at o_reader_end o_reader_counting o_reader_power o_reader_units x1 x3).elim ((f_D_put o_reader_count o_reader_at o_reader_end o_reader_counting o_reader_power o_reader_units x1 x3).bind fun (r_6, u6_o_reader_count, u6_o_reader_units) => (some ((0 : Int32), (u6_o_reader_count, u6_o_reader_units, (vp_updL q (0 : Int32).toNatClampNeg ((r_6).toInt64)))))) (fun k => some (zrk k, (o_reader_count, o_reader_units, q)))
theorem zn_L_7 : zNV R_L 7 y_D_put c_D_put 5 (some .int) 2 := ⟨zco_D_put, zin_D, zml_L_7, zim_D_put, zse_D_D_put, by decide +kernel⟩
set_option maxHeartbeats 4000000 in
set_option maxRecDepth 100000 in
theorem kW_L_put (κ : zC) (X : zXT) (hX : zX κ X) (hXE : zXE X) (l : Launch) (hfl : l.flags = flags0) (a_o a_q a_o_reader a_o_writer a_o_reader_units a_o_reader_numerator a_o_reader_denominator : Nat) (sz : Nat) (o_reader_count : Int32) (o_reader_at : Int32) (o_reader_end : Int32) (o_reader_counting : Int32) (o_reader_power : Int32) (o_reader_units : Nat → Int32) (q : Nat → Int64) (x1 : Int64) (x3 : Int32) (out : Int32 × ((Int32) × (Nat → Int32) × (Nat → Int64))) (hf : w_L_put o_reader_count o_reader_at o_reader_end o_reader_counting o_reader_power o_reader_units q x1 x3 = some out) : zMetW κ X l y_L_put c_L_put 6 (some .int) [((0 : Nat), (11 : Nat), (14 : Nat), (13 : Nat)), ((0 : Nat), (11 : Nat), (18 : Nat), (15 : Nat))] 7 106 [.ref a_o, .long x1, .int x3, .ref a_q] sz [(a_o, .inr (0, [.ref a_o_reader, .ref a_o_writer])), (a_o_reader, .inr (4, [.ref a_o_reader_units, .int o_reader_count, .int o_reader_at, .int o_reader_end, .ref a_o_reader_numerator, .ref a_o_reader_denominator, .int o_reader_counting, .int o_reader_power])), (a_o_reader_units, .inl (κ.2.1, 600, .inl o_reader_units)), (a_q, .inl (κ.2.2.2.1, 1, .inr (.inl q)))] (zQi κ (fun (r : Int32) (u : (Int32) × (Nat → Int32) × (Nat → Int64)) => (r, u) = out) (fun u => [(a_o, .inr (0, [.ref a_o_reader, .ref a_o_writer])), (a_o_reader, .inr (4, [.ref a_o_reader_units, .int u.1, .int o_reader_at, .int o_reader_end, .ref a_o_reader_numerator, .ref a_o_reader_denominator, .int o_reader_counting, .int o_reader_power])), (a_o_reader_units, .inl (κ.2.1, 600, .inl u.2.1)), (a_q, .inl (κ.2.2.2.1, 1, .inr (.inl u.2.2)))])) := by
  refine zMetW.of (by decide +kernel) (Nat.le_of_ble_eq_true rfl) ?_
  intro p e s m args below meth c ls A Q hF htab hK hP hD hA hXs hS hl hret
  obtain ⟨hx, hb, hml, hown, hts⟩ := id hF
  obtain ⟨H, hH⟩ : ∃ H, H = s.heap := ⟨_, rfl⟩
  obtain ⟨locs, hlo⟩ : ∃ z : List Loc, z = [] := ⟨_, rfl⟩
  replace hP : zP κ [(a_o, .inr (0, [.ref a_o_reader, .ref a_o_writer])), (a_o_reader, .inr (4, [.ref a_o_reader_units, .int o_reader_count, .int o_reader_at, .int o_reader_end, .ref a_o_reader_numerator, .ref a_o_reader_denominator, .int o_reader_counting, .int o_reader_power])), (a_o_reader_units, .inl (κ.2.1, 600, .inl o_reader_units)), (a_q, .inl (κ.2.2.2.1, 1, .inr (.inl q)))] H := by rw [hH]; exact hP
  replace hS : va_S A s.heap H locs := by rw [hH, hlo]; exact hS
  suffices hgo : W p l e (zRT 7 106) s m args below meth c H locs 0 0 Q (F0 m 0 ls []) by rw [hH, hlo] at hgo; exact hgo
  clear hH hlo
  replace hl : lv_has ls 6 [(0, .ref a_o), (1, .long x1), (3, .int x3), (4, .ref a_q)] := hl
  unfold w_L_put at hf
  rcases h9 : t_D_put o_reader_count o_reader_at o_reader_end o_reader_counting o_reader_power o_reader_units x1 x3 with _ | k
  · rw [h9, Option.elim_none] at hf
    refine lv_aload hx hb d_L_put_0 (lv_at hl 3 rfl) ?_
    refine lv_iconst (v := 0) hx hb d_L_put_2 (by decide) ?_
    refine lv_aload_n hx hb d_L_put_3 rfl (lv_at hl 0 rfl) ?_
    refine lv_lload_n hx hb d_L_put_4 rfl (lv_at hl 1 rfl) ?_
    refine lv_iload_n hx hb d_L_put_5 rfl (lv_at hl 2 rfl) ?_
    obtain ⟨o_6, ho_6, hf⟩ := zbd hf
    refine zVi (isC := [0, 1, 2]) (isR := [3]) (isN := [1, 2, 3, 0]) (wc := [(a_o, .inr (0, [.ref a_o_reader, .ref a_o_writer])), (a_o_reader, .inr (4, [.ref a_o_reader_units, .int o_reader_count, .int o_reader_at, .int o_reader_end, .ref a_o_reader_numerator, .ref a_o_reader_denominator, .int o_reader_counting, .int o_reader_power])), (a_o_reader_units, .inl (κ.2.1, 600, .inl o_reader_units))]) (wr := [(a_q, .inl (κ.2.2.2.1, 1, .inr (.inl q)))]) (wn := fun u => [(a_o, .inr (0, [.ref a_o_reader, .ref a_o_writer])), (a_o_reader, .inr (4, [.ref a_o_reader_units, .int u.1, .int o_reader_at, .int o_reader_end, .ref a_o_reader_numerator, .ref a_o_reader_denominator, .int o_reader_counting, .int o_reader_power])), (a_o_reader_units, .inl (κ.2.1, 600, .inl u.2)), (a_q, .inl (κ.2.2.2.1, 1, .inr (.inl q)))]) (rest := [.int 0, .ref a_q]) (As := [.long x1, .int x3]) hF zn_L_7 (k_D_put κ X hX l a_o a_o_reader a_o_writer a_o_reader_units a_o_reader_numerator a_o_reader_denominator H.size o_reader_count o_reader_at o_reader_end o_reader_counting o_reader_power o_reader_units x1 x3 o_6 ho_6) hX hXs hK hA hP hD hS ⟨by decide, by decide⟩ ⟨rfl, rfl, rfl, rfl, rfl, by decide⟩ ⟨rfl, fun _ => rfl, fun _ => rfl⟩ (ci := 0) rfl rfl rfl rfl hl.1 rfl (Nat.le_of_ble_eq_true rfl) ⟨Nat.zero_le _, Nat.zero_le _⟩ d_L_put_6 (fun r_6 u H locs hw hP hD hS => ?_)
    obtain ⟨u6_o_reader_count, u6_o_reader_units⟩ := u
    have hP : zP κ [(a_o, .inr (0, [.ref a_o_reader, .ref a_o_writer])), (a_o_reader, .inr (4, [.ref a_o_reader_units, .int u6_o_reader_count, .int o_reader_at, .int o_reader_end, .ref a_o_reader_numerator, .ref a_o_reader_denominator, .int o_reader_counting, .int o_reader_power])), (a_o_reader_units, .inl (κ.2.1, 600, .inl u6_o_reader_units)), (a_q, .inl (κ.2.2.2.1, 1, .inr (.inl q)))] H := hP
    have hD : va_D A [(a_o, .inr (0, [.ref a_o_reader, .ref a_o_writer])), (a_o_reader, .inr (4, [.ref a_o_reader_units, .int u6_o_reader_count, .int o_reader_at, .int o_reader_end, .ref a_o_reader_numerator, .ref a_o_reader_denominator, .int o_reader_counting, .int o_reader_power])), (a_o_reader_units, .inl (κ.2.1, 600, .inl u6_o_reader_units)), (a_q, .inl (κ.2.2.2.1, 1, .inr (.inl q)))] := hD
    subst hw
    dsimp only at hf
    refine lv_i2l hx hb d_L_put_9 rfl ?_
    refine va_last hx hb hK hP hD hS 3 2 rfl rfl (zin_vp (by decide)) d_L_put_10 (fun H locs hP hD hS => ?_)
    have hP : zP κ [(a_o, .inr (0, [.ref a_o_reader, .ref a_o_writer])), (a_o_reader, .inr (4, [.ref a_o_reader_units, .int u6_o_reader_count, .int o_reader_at, .int o_reader_end, .ref a_o_reader_numerator, .ref a_o_reader_denominator, .int o_reader_counting, .int o_reader_power])), (a_o_reader_units, .inl (κ.2.1, 600, .inl u6_o_reader_units)), (a_q, .inl (κ.2.2.2.1, 1, .inr (.inl (vp_updL q (0 : Int32).toNatClampNeg ((r_6).toInt64)))))] H := hP
    have hD : va_D A [(a_o, .inr (0, [.ref a_o_reader, .ref a_o_writer])), (a_o_reader, .inr (4, [.ref a_o_reader_units, .int u6_o_reader_count, .int o_reader_at, .int o_reader_end, .ref a_o_reader_numerator, .ref a_o_reader_denominator, .int o_reader_counting, .int o_reader_power])), (a_o_reader_units, .inl (κ.2.1, 600, .inl u6_o_reader_units)), (a_q, .inl (κ.2.2.2.1, 1, .inr (.inl (vp_updL q (0 : Int32).toNatClampNeg ((r_6).toInt64)))))] := hD
    refine lv_goto (tgt := 22) hx hb d_L_put_11 (by decide) ?_
    refine lv_iconst (v := 0) hx hb d_L_put_22 (by decide) ?_
    exact hret ((0 : Int32)) ((u6_o_reader_count, u6_o_reader_units, (vp_updL q (0 : Int32).toNatClampNeg ((r_6).toInt64)))) H locs ls _ 0 0 (Nat.zero_le _) (Nat.zero_le _) d_L_put_23 hP hD hS (Option.some.inj hf)
  · rw [h9, Option.elim_some] at hf
    refine lv_aload hx hb d_L_put_0 (lv_at hl 3 rfl) ?_
    refine lv_iconst (v := 0) hx hb d_L_put_2 (by decide) ?_
    refine lv_aload_n hx hb d_L_put_3 rfl (lv_at hl 0 rfl) ?_
    refine lv_lload_n hx hb d_L_put_4 rfl (lv_at hl 1 rfl) ?_
    refine lv_iload_n hx hb d_L_put_5 rfl (lv_at hl 2 rfl) ?_
    rcases t_D_put_k h9 with rfl | rfl
    · have ht2 : c.exceptionTable.toList = [zEnt (0, 11, 14, 13), zEnt (0, 11, 18, 15)] := htab
      refine zVt (E := "java/lang/IllegalArgumentException") (isC := [0, 1, 2]) (rest := [.int 0, .ref a_q]) (As := [.long x1, .int x3]) hF zn_L_7 (kt_D_put κ X hX hXE l hfl a_o a_o_reader a_o_writer a_o_reader_units a_o_reader_numerator a_o_reader_denominator H.size o_reader_count o_reader_at o_reader_end o_reader_counting o_reader_power o_reader_units x1 x3 1 h9) hX hXs hK hA hP hD hS ⟨by decide, by decide⟩ ⟨rfl, rfl, rfl⟩ (ci := 0) rfl rfl rfl rfl hl.1 rfl (Nat.le_of_ble_eq_true rfl) ⟨by decide, by decide⟩ d_L_put_6 (hp := 14) (fun ha cX hcX => by rw [ht2]; exact (zcat_hd (x := zEnt (0, 11, 14, 13)) ha hown hcX (by decide) (by decide) (hts _ zcl_L_13))) (fun v H1 hsz hold => ?_)
      refine lv_astore (lv' := [(5, .ref v), (0, .ref a_o), (1, .long x1), (3, .int x3), (4, .ref a_q)]) hx hb d_L_put_14 hl (by decide) rfl (fun ls hl => ?_)
      refine lv_iconst (v := 1) hx hb d_L_put_16 (by decide) ?_
      exact hret 1 ((o_reader_count, o_reader_units, q)) H1 locs ls _ _ _ (by decide) (by decide) d_L_put_17 (zkeepP hP hold) hD (zkeepS hS hsz hold) (Option.some.inj hf)
    · have ht2 : c.exceptionTable.toList = [zEnt (0, 11, 14, 13), zEnt (0, 11, 18, 15)] := htab
      refine zVt (E := "java/lang/IllegalStateException") (isC := [0, 1, 2]) (rest := [.int 0, .ref a_q]) (As := [.long x1, .int x3]) hF zn_L_7 (kt_D_put κ X hX hXE l hfl a_o a_o_reader a_o_writer a_o_reader_units a_o_reader_numerator a_o_reader_denominator H.size o_reader_count o_reader_at o_reader_end o_reader_counting o_reader_power o_reader_units x1 x3 2 h9) hX hXs hK hA hP hD hS ⟨by decide, by decide⟩ ⟨rfl, rfl, rfl⟩ (ci := 0) rfl rfl rfl rfl hl.1 rfl (Nat.le_of_ble_eq_true rfl) ⟨by decide, by decide⟩ d_L_put_6 (hp := 18) (fun ha cX hcX => by rw [ht2]; exact (zpass (x := zEnt (0, 11, 14, 13)) hXE hXs ha hown hcX (by decide) (by decide) (hts _ zcl_L_13) (zcat_hd (x := zEnt (0, 11, 18, 15)) ha hown hcX (by decide) (by decide) (hts _ zcl_L_15)))) (fun v H1 hsz hold => ?_)
      refine lv_astore (lv' := [(5, .ref v), (0, .ref a_o), (1, .long x1), (3, .int x3), (4, .ref a_q)]) hx hb d_L_put_18 hl (by decide) rfl (fun ls hl => ?_)
      refine lv_iconst (v := 2) hx hb d_L_put_20 (by decide) ?_
      exact hret 2 ((o_reader_count, o_reader_units, q)) H1 locs ls _ _ _ (by decide) (by decide) d_L_put_21 (zkeepP hP hold) hD (zkeepS hS hsz hold) (Option.some.inj hf)
theorem d_L_reckon_0 : decode c_L_reckon 0 = .ok (.aload 6, 2) := by decide +kernel
theorem d_L_reckon_2 : decode c_L_reckon 2 = .ok (.iconst 0, 1) := by decide +kernel
theorem d_L_reckon_3 : decode c_L_reckon 3 = .ok (.aload_n 0, 1) := by decide +kernel
theorem d_L_reckon_4 : decode c_L_reckon 4 = .ok (.lload_n 1, 1) := by decide +kernel
theorem d_L_reckon_5 : decode c_L_reckon 5 = .ok (.lload_n 3, 1) := by decide +kernel
theorem d_L_reckon_6 : decode c_L_reckon 6 = .ok (.iload 5, 2) := by decide +kernel
theorem d_L_reckon_8 : decode c_L_reckon 8 = .ok (.invokevirtual 17, 3) := by decide +kernel
theorem d_L_reckon_11 : decode c_L_reckon 11 = .ok (.lastore, 1) := by decide +kernel
theorem d_L_reckon_12 : decode c_L_reckon 12 = .ok (.goto 7, 3) := by decide +kernel
theorem d_L_reckon_15 : decode c_L_reckon 15 = .ok (.astore 7, 2) := by decide +kernel
theorem d_L_reckon_17 : decode c_L_reckon 17 = .ok (.iconst 1, 1) := by decide +kernel
theorem d_L_reckon_18 : decode c_L_reckon 18 = .ok (.ireturn, 1) := by decide +kernel
theorem d_L_reckon_19 : decode c_L_reckon 19 = .ok (.iconst 0, 1) := by decide +kernel
theorem d_L_reckon_20 : decode c_L_reckon 20 = .ok (.ireturn, 1) := by decide +kernel
noncomputable def w_L_reckon (q : Nat → Int64) (x1 : Int64) (x3 : Int64) (x5 : Int32) : Option (Int32 × ((Nat → Int64))) :=
  (t_D_reckon x1 x3 x5).elim ((f_D_reckon x1 x3 x5).bind fun r_8 => (some ((0 : Int32), (vp_updL q (0 : Int32).toNatClampNeg r_8)))) (fun k => some (zrk k, q))
theorem zn_L_17 : zNV R_L 17 y_D_reckon c_D_reckon 6 (some .long) 3 := ⟨zco_D_reckon, zin_D, zml_L_17, zim_D_reckon, zse_D_D_reckon, by decide +kernel⟩
set_option maxHeartbeats 4000000 in
set_option maxRecDepth 100000 in
theorem kW_L_reckon (κ : zC) (X : zXT) (hX : zX κ X) (hXE : zXE X) (l : Launch) (hfl : l.flags = flags0) (a_o a_q a_o_reader a_o_writer : Nat) (sz : Nat) (q : Nat → Int64) (x1 : Int64) (x3 : Int64) (x5 : Int32) (out : Int32 × ((Nat → Int64))) (hf : w_L_reckon q x1 x3 x5 = some out) : zMetW κ X l y_L_reckon c_L_reckon 8 (some .int) [((0 : Nat), (12 : Nat), (15 : Nat), (13 : Nat))] 7 171 [.ref a_o, .long x1, .long x3, .int x5, .ref a_q] sz [(a_o, .inr (0, [.ref a_o_reader, .ref a_o_writer])), (a_q, .inl (κ.2.2.2.1, 1, .inr (.inl q)))] (zQi κ (fun (r : Int32) (u : (Nat → Int64)) => (r, u) = out) (fun u => [(a_o, .inr (0, [.ref a_o_reader, .ref a_o_writer])), (a_q, .inl (κ.2.2.2.1, 1, .inr (.inl u)))])) := by
  refine zMetW.of (by decide +kernel) (Nat.le_of_ble_eq_true rfl) ?_
  intro p e s m args below meth c ls A Q hF htab hK hP hD hA hXs hS hl hret
  obtain ⟨hx, hb, hml, hown, hts⟩ := id hF
  obtain ⟨H, hH⟩ : ∃ H, H = s.heap := ⟨_, rfl⟩
  obtain ⟨locs, hlo⟩ : ∃ z : List Loc, z = [] := ⟨_, rfl⟩
  replace hP : zP κ [(a_o, .inr (0, [.ref a_o_reader, .ref a_o_writer])), (a_q, .inl (κ.2.2.2.1, 1, .inr (.inl q)))] H := by rw [hH]; exact hP
  replace hS : va_S A s.heap H locs := by rw [hH, hlo]; exact hS
  suffices hgo : W p l e (zRT 7 171) s m args below meth c H locs 0 0 Q (F0 m 0 ls []) by rw [hH, hlo] at hgo; exact hgo
  clear hH hlo
  replace hl : lv_has ls 8 [(0, .ref a_o), (1, .long x1), (3, .long x3), (5, .int x5), (6, .ref a_q)] := hl
  unfold w_L_reckon at hf
  rcases h9 : t_D_reckon x1 x3 x5 with _ | k
  · rw [h9, Option.elim_none] at hf
    refine lv_aload hx hb d_L_reckon_0 (lv_at hl 4 rfl) ?_
    refine lv_iconst (v := 0) hx hb d_L_reckon_2 (by decide) ?_
    refine lv_aload_n hx hb d_L_reckon_3 rfl (lv_at hl 0 rfl) ?_
    refine lv_lload_n hx hb d_L_reckon_4 rfl (lv_at hl 1 rfl) ?_
    refine lv_lload_n hx hb d_L_reckon_5 rfl (lv_at hl 2 rfl) ?_
    refine lv_iload hx hb d_L_reckon_6 (lv_at hl 3 rfl) ?_
    obtain ⟨o_8, ho_8, hf⟩ := zbd hf
    refine zVl (isC := [0]) (isR := [1]) (isN := [1, 0]) (wc := [(a_o, .inr (0, [.ref a_o_reader, .ref a_o_writer]))]) (wr := [(a_q, .inl (κ.2.2.2.1, 1, .inr (.inl q)))]) (wn := fun u => [(a_o, .inr (0, [.ref a_o_reader, .ref a_o_writer])), (a_q, .inl (κ.2.2.2.1, 1, .inr (.inl q)))]) (rest := [.int 0, .ref a_q]) (As := [.long x1, .long x3, .int x5]) hF zn_L_17 (k_D_reckon κ X hX l a_o a_o_reader a_o_writer H.size x1 x3 x5 o_8 ho_8) hX hXs hK hA hP hD hS ⟨by decide, by decide⟩ ⟨rfl, rfl, rfl, rfl, rfl, by decide⟩ ⟨rfl, fun _ => rfl, fun _ => rfl⟩ (ci := 0) rfl rfl rfl rfl hl.1 rfl (Nat.le_of_ble_eq_true rfl) ⟨Nat.zero_le _, Nat.zero_le _⟩ d_L_reckon_8 (fun r_8 u H locs hw hP hD hS => ?_)
    subst hw
    refine va_last hx hb hK hP hD hS 1 2 rfl rfl (zin_vp (by decide)) d_L_reckon_11 (fun H locs hP hD hS => ?_)
    have hP : zP κ [(a_o, .inr (0, [.ref a_o_reader, .ref a_o_writer])), (a_q, .inl (κ.2.2.2.1, 1, .inr (.inl (vp_updL q (0 : Int32).toNatClampNeg r_8))))] H := hP
    have hD : va_D A [(a_o, .inr (0, [.ref a_o_reader, .ref a_o_writer])), (a_q, .inl (κ.2.2.2.1, 1, .inr (.inl (vp_updL q (0 : Int32).toNatClampNeg r_8))))] := hD
    refine lv_goto (tgt := 19) hx hb d_L_reckon_12 (by decide) ?_
    refine lv_iconst (v := 0) hx hb d_L_reckon_19 (by decide) ?_
    exact hret ((0 : Int32)) ((vp_updL q (0 : Int32).toNatClampNeg r_8)) H locs ls _ 0 0 (Nat.zero_le _) (Nat.zero_le _) d_L_reckon_20 hP hD hS (Option.some.inj hf)
  · rw [h9, Option.elim_some] at hf
    refine lv_aload hx hb d_L_reckon_0 (lv_at hl 4 rfl) ?_
    refine lv_iconst (v := 0) hx hb d_L_reckon_2 (by decide) ?_
    refine lv_aload_n hx hb d_L_reckon_3 rfl (lv_at hl 0 rfl) ?_
    refine lv_lload_n hx hb d_L_reckon_4 rfl (lv_at hl 1 rfl) ?_
    refine lv_lload_n hx hb d_L_reckon_5 rfl (lv_at hl 2 rfl) ?_
    refine lv_iload hx hb d_L_reckon_6 (lv_at hl 3 rfl) ?_
    obtain rfl := t_D_reckon_k h9
    have ht2 : c.exceptionTable.toList = [zEnt (0, 12, 15, 13)] := htab
    refine zVt (E := "java/lang/IllegalArgumentException") (isC := [0]) (rest := [.int 0, .ref a_q]) (As := [.long x1, .long x3, .int x5]) hF zn_L_17 (kt_D_reckon κ X hX hXE l hfl a_o a_o_reader a_o_writer H.size  x1 x3 x5 1 h9) hX hXs hK hA hP hD hS ⟨by decide, by decide⟩ ⟨rfl, rfl, rfl⟩ (ci := 0) rfl rfl rfl rfl hl.1 rfl (Nat.le_of_ble_eq_true rfl) ⟨by decide, by decide⟩ d_L_reckon_8 (hp := 15) (fun ha cX hcX => by rw [ht2]; exact (zcat_hd (x := zEnt (0, 12, 15, 13)) ha hown hcX (by decide) (by decide) (hts _ zcl_L_13))) (fun v H1 hsz hold => ?_)
    refine lv_astore (lv' := [(7, .ref v), (0, .ref a_o), (1, .long x1), (3, .long x3), (5, .int x5), (6, .ref a_q)]) hx hb d_L_reckon_15 hl (by decide) rfl (fun ls hl => ?_)
    refine lv_iconst (v := 1) hx hb d_L_reckon_17 (by decide) ?_
    exact hret 1 (q) H1 locs ls _ _ _ (by decide) (by decide) d_L_reckon_18 (zkeepP hP hold) hD (zkeepS hS hsz hold) (Option.some.inj hf)
theorem d_L_turn_0 : decode c_L_turn 0 = .ok (.aload 4, 2) := by decide +kernel
theorem d_L_turn_2 : decode c_L_turn 2 = .ok (.iconst 0, 1) := by decide +kernel
theorem d_L_turn_3 : decode c_L_turn 3 = .ok (.aload_n 0, 1) := by decide +kernel
theorem d_L_turn_4 : decode c_L_turn 4 = .ok (.lload_n 1, 1) := by decide +kernel
theorem d_L_turn_5 : decode c_L_turn 5 = .ok (.iload_n 3, 1) := by decide +kernel
theorem d_L_turn_6 : decode c_L_turn 6 = .ok (.invokevirtual 21, 3) := by decide +kernel
theorem d_L_turn_9 : decode c_L_turn 9 = .ok (.lastore, 1) := by decide +kernel
theorem d_L_turn_10 : decode c_L_turn 10 = .ok (.goto 7, 3) := by decide +kernel
theorem d_L_turn_13 : decode c_L_turn 13 = .ok (.astore 5, 2) := by decide +kernel
theorem d_L_turn_15 : decode c_L_turn 15 = .ok (.iconst 1, 1) := by decide +kernel
theorem d_L_turn_16 : decode c_L_turn 16 = .ok (.ireturn, 1) := by decide +kernel
theorem d_L_turn_17 : decode c_L_turn 17 = .ok (.iconst 0, 1) := by decide +kernel
theorem d_L_turn_18 : decode c_L_turn 18 = .ok (.ireturn, 1) := by decide +kernel
noncomputable def w_L_turn (q : Nat → Int64) (x1 : Int64) (x3 : Int32) : Option (Int32 × ((Nat → Int64))) :=
  (t_D_turn x1 x3).elim ((f_D_turn x1 x3).bind fun r_6 => (some ((0 : Int32), (vp_updL q (0 : Int32).toNatClampNeg r_6)))) (fun k => some (zrk k, q))
theorem zn_L_21 : zNV R_L 21 y_D_turn c_D_turn 4 (some .long) 2 := ⟨zco_D_turn, zin_D, zml_L_21, zim_D_turn, zse_D_D_turn, by decide +kernel⟩
set_option maxHeartbeats 4000000 in
set_option maxRecDepth 100000 in
theorem kW_L_turn (κ : zC) (X : zXT) (hX : zX κ X) (hXE : zXE X) (l : Launch) (hfl : l.flags = flags0) (a_o a_q a_o_reader a_o_writer : Nat) (sz : Nat) (q : Nat → Int64) (x1 : Int64) (x3 : Int32) (out : Int32 × ((Nat → Int64))) (hf : w_L_turn q x1 x3 = some out) : zMetW κ X l y_L_turn c_L_turn 6 (some .int) [((0 : Nat), (10 : Nat), (13 : Nat), (13 : Nat))] 7 149 [.ref a_o, .long x1, .int x3, .ref a_q] sz [(a_o, .inr (0, [.ref a_o_reader, .ref a_o_writer])), (a_q, .inl (κ.2.2.2.1, 1, .inr (.inl q)))] (zQi κ (fun (r : Int32) (u : (Nat → Int64)) => (r, u) = out) (fun u => [(a_o, .inr (0, [.ref a_o_reader, .ref a_o_writer])), (a_q, .inl (κ.2.2.2.1, 1, .inr (.inl u)))])) := by
  refine zMetW.of (by decide +kernel) (Nat.le_of_ble_eq_true rfl) ?_
  intro p e s m args below meth c ls A Q hF htab hK hP hD hA hXs hS hl hret
  obtain ⟨hx, hb, hml, hown, hts⟩ := id hF
  obtain ⟨H, hH⟩ : ∃ H, H = s.heap := ⟨_, rfl⟩
  obtain ⟨locs, hlo⟩ : ∃ z : List Loc, z = [] := ⟨_, rfl⟩
  replace hP : zP κ [(a_o, .inr (0, [.ref a_o_reader, .ref a_o_writer])), (a_q, .inl (κ.2.2.2.1, 1, .inr (.inl q)))] H := by rw [hH]; exact hP
  replace hS : va_S A s.heap H locs := by rw [hH, hlo]; exact hS
  suffices hgo : W p l e (zRT 7 149) s m args below meth c H locs 0 0 Q (F0 m 0 ls []) by rw [hH, hlo] at hgo; exact hgo
  clear hH hlo
  replace hl : lv_has ls 6 [(0, .ref a_o), (1, .long x1), (3, .int x3), (4, .ref a_q)] := hl
  unfold w_L_turn at hf
  rcases h9 : t_D_turn x1 x3 with _ | k
  · rw [h9, Option.elim_none] at hf
    refine lv_aload hx hb d_L_turn_0 (lv_at hl 3 rfl) ?_
    refine lv_iconst (v := 0) hx hb d_L_turn_2 (by decide) ?_
    refine lv_aload_n hx hb d_L_turn_3 rfl (lv_at hl 0 rfl) ?_
    refine lv_lload_n hx hb d_L_turn_4 rfl (lv_at hl 1 rfl) ?_
    refine lv_iload_n hx hb d_L_turn_5 rfl (lv_at hl 2 rfl) ?_
    obtain ⟨o_6, ho_6, hf⟩ := zbd hf
    refine zVl (isC := [0]) (isR := [1]) (isN := [1, 0]) (wc := [(a_o, .inr (0, [.ref a_o_reader, .ref a_o_writer]))]) (wr := [(a_q, .inl (κ.2.2.2.1, 1, .inr (.inl q)))]) (wn := fun u => [(a_o, .inr (0, [.ref a_o_reader, .ref a_o_writer])), (a_q, .inl (κ.2.2.2.1, 1, .inr (.inl q)))]) (rest := [.int 0, .ref a_q]) (As := [.long x1, .int x3]) hF zn_L_21 (k_D_turn κ X hX l a_o a_o_reader a_o_writer H.size x1 x3 o_6 ho_6) hX hXs hK hA hP hD hS ⟨by decide, by decide⟩ ⟨rfl, rfl, rfl, rfl, rfl, by decide⟩ ⟨rfl, fun _ => rfl, fun _ => rfl⟩ (ci := 0) rfl rfl rfl rfl hl.1 rfl (Nat.le_of_ble_eq_true rfl) ⟨Nat.zero_le _, Nat.zero_le _⟩ d_L_turn_6 (fun r_6 u H locs hw hP hD hS => ?_)
    subst hw
    refine va_last hx hb hK hP hD hS 1 2 rfl rfl (zin_vp (by decide)) d_L_turn_9 (fun H locs hP hD hS => ?_)
    have hP : zP κ [(a_o, .inr (0, [.ref a_o_reader, .ref a_o_writer])), (a_q, .inl (κ.2.2.2.1, 1, .inr (.inl (vp_updL q (0 : Int32).toNatClampNeg r_6))))] H := hP
    have hD : va_D A [(a_o, .inr (0, [.ref a_o_reader, .ref a_o_writer])), (a_q, .inl (κ.2.2.2.1, 1, .inr (.inl (vp_updL q (0 : Int32).toNatClampNeg r_6))))] := hD
    refine lv_goto (tgt := 17) hx hb d_L_turn_10 (by decide) ?_
    refine lv_iconst (v := 0) hx hb d_L_turn_17 (by decide) ?_
    exact hret ((0 : Int32)) ((vp_updL q (0 : Int32).toNatClampNeg r_6)) H locs ls _ 0 0 (Nat.zero_le _) (Nat.zero_le _) d_L_turn_18 hP hD hS (Option.some.inj hf)
  · rw [h9, Option.elim_some] at hf
    refine lv_aload hx hb d_L_turn_0 (lv_at hl 3 rfl) ?_
    refine lv_iconst (v := 0) hx hb d_L_turn_2 (by decide) ?_
    refine lv_aload_n hx hb d_L_turn_3 rfl (lv_at hl 0 rfl) ?_
    refine lv_lload_n hx hb d_L_turn_4 rfl (lv_at hl 1 rfl) ?_
    refine lv_iload_n hx hb d_L_turn_5 rfl (lv_at hl 2 rfl) ?_
    obtain rfl := t_D_turn_k h9
    have ht2 : c.exceptionTable.toList = [zEnt (0, 10, 13, 13)] := htab
    refine zVt (E := "java/lang/IllegalArgumentException") (isC := [0]) (rest := [.int 0, .ref a_q]) (As := [.long x1, .int x3]) hF zn_L_21 (kt_D_turn κ X hX hXE l hfl a_o a_o_reader a_o_writer H.size  x1 x3 1 h9) hX hXs hK hA hP hD hS ⟨by decide, by decide⟩ ⟨rfl, rfl, rfl⟩ (ci := 0) rfl rfl rfl rfl hl.1 rfl (Nat.le_of_ble_eq_true rfl) ⟨by decide, by decide⟩ d_L_turn_6 (hp := 13) (fun ha cX hcX => by rw [ht2]; exact (zcat_hd (x := zEnt (0, 10, 13, 13)) ha hown hcX (by decide) (by decide) (hts _ zcl_L_13))) (fun v H1 hsz hold => ?_)
    refine lv_astore (lv' := [(5, .ref v), (0, .ref a_o), (1, .long x1), (3, .int x3), (4, .ref a_q)]) hx hb d_L_turn_13 hl (by decide) rfl (fun ls hl => ?_)
    refine lv_iconst (v := 1) hx hb d_L_turn_15 (by decide) ?_
    exact hret 1 (q) H1 locs ls _ _ _ (by decide) (by decide) d_L_turn_16 (zkeepP hP hold) hD (zkeepS hS hsz hold) (Option.some.inj hf)
theorem d_L_whole_0 : decode c_L_whole 0 = .ok (.aload 4, 2) := by decide +kernel
theorem d_L_whole_2 : decode c_L_whole 2 = .ok (.iconst 0, 1) := by decide +kernel
theorem d_L_whole_3 : decode c_L_whole 3 = .ok (.aload_n 0, 1) := by decide +kernel
theorem d_L_whole_4 : decode c_L_whole 4 = .ok (.lload_n 1, 1) := by decide +kernel
theorem d_L_whole_5 : decode c_L_whole 5 = .ok (.iload_n 3, 1) := by decide +kernel
theorem d_L_whole_6 : decode c_L_whole 6 = .ok (.invokevirtual 25, 3) := by decide +kernel
theorem d_L_whole_9 : decode c_L_whole 9 = .ok (.lastore, 1) := by decide +kernel
theorem d_L_whole_10 : decode c_L_whole 10 = .ok (.goto 7, 3) := by decide +kernel
theorem d_L_whole_13 : decode c_L_whole 13 = .ok (.astore 5, 2) := by decide +kernel
theorem d_L_whole_15 : decode c_L_whole 15 = .ok (.iconst 1, 1) := by decide +kernel
theorem d_L_whole_16 : decode c_L_whole 16 = .ok (.ireturn, 1) := by decide +kernel
theorem d_L_whole_17 : decode c_L_whole 17 = .ok (.iconst 0, 1) := by decide +kernel
theorem d_L_whole_18 : decode c_L_whole 18 = .ok (.ireturn, 1) := by decide +kernel
noncomputable def w_L_whole (q : Nat → Int64) (x1 : Int64) (x3 : Int32) : Option (Int32 × ((Nat → Int64))) :=
  (t_D_whole x1 x3).elim ((f_D_whole x1 x3).bind fun r_6 => (some ((0 : Int32), (vp_updL q (0 : Int32).toNatClampNeg r_6)))) (fun k => some (zrk k, q))
theorem zn_L_25 : zNV R_L 25 y_D_whole c_D_whole 6 (some .long) 2 := ⟨zco_D_whole, zin_D, zml_L_25, zim_D_whole, zse_D_D_whole, by decide +kernel⟩
set_option maxHeartbeats 4000000 in
set_option maxRecDepth 100000 in
theorem kW_L_whole (κ : zC) (X : zXT) (hX : zX κ X) (hXE : zXE X) (l : Launch) (hfl : l.flags = flags0) (a_o a_q a_o_reader a_o_writer : Nat) (sz : Nat) (q : Nat → Int64) (x1 : Int64) (x3 : Int32) (out : Int32 × ((Nat → Int64))) (hf : w_L_whole q x1 x3 = some out) : zMetW κ X l y_L_whole c_L_whole 6 (some .int) [((0 : Nat), (10 : Nat), (13 : Nat), (13 : Nat))] 7 107 [.ref a_o, .long x1, .int x3, .ref a_q] sz [(a_o, .inr (0, [.ref a_o_reader, .ref a_o_writer])), (a_q, .inl (κ.2.2.2.1, 1, .inr (.inl q)))] (zQi κ (fun (r : Int32) (u : (Nat → Int64)) => (r, u) = out) (fun u => [(a_o, .inr (0, [.ref a_o_reader, .ref a_o_writer])), (a_q, .inl (κ.2.2.2.1, 1, .inr (.inl u)))])) := by
  refine zMetW.of (by decide +kernel) (Nat.le_of_ble_eq_true rfl) ?_
  intro p e s m args below meth c ls A Q hF htab hK hP hD hA hXs hS hl hret
  obtain ⟨hx, hb, hml, hown, hts⟩ := id hF
  obtain ⟨H, hH⟩ : ∃ H, H = s.heap := ⟨_, rfl⟩
  obtain ⟨locs, hlo⟩ : ∃ z : List Loc, z = [] := ⟨_, rfl⟩
  replace hP : zP κ [(a_o, .inr (0, [.ref a_o_reader, .ref a_o_writer])), (a_q, .inl (κ.2.2.2.1, 1, .inr (.inl q)))] H := by rw [hH]; exact hP
  replace hS : va_S A s.heap H locs := by rw [hH, hlo]; exact hS
  suffices hgo : W p l e (zRT 7 107) s m args below meth c H locs 0 0 Q (F0 m 0 ls []) by rw [hH, hlo] at hgo; exact hgo
  clear hH hlo
  replace hl : lv_has ls 6 [(0, .ref a_o), (1, .long x1), (3, .int x3), (4, .ref a_q)] := hl
  unfold w_L_whole at hf
  rcases h9 : t_D_whole x1 x3 with _ | k
  · rw [h9, Option.elim_none] at hf
    refine lv_aload hx hb d_L_whole_0 (lv_at hl 3 rfl) ?_
    refine lv_iconst (v := 0) hx hb d_L_whole_2 (by decide) ?_
    refine lv_aload_n hx hb d_L_whole_3 rfl (lv_at hl 0 rfl) ?_
    refine lv_lload_n hx hb d_L_whole_4 rfl (lv_at hl 1 rfl) ?_
    refine lv_iload_n hx hb d_L_whole_5 rfl (lv_at hl 2 rfl) ?_
    obtain ⟨o_6, ho_6, hf⟩ := zbd hf
    refine zVl (isC := [0]) (isR := [1]) (isN := [1, 0]) (wc := [(a_o, .inr (0, [.ref a_o_reader, .ref a_o_writer]))]) (wr := [(a_q, .inl (κ.2.2.2.1, 1, .inr (.inl q)))]) (wn := fun u => [(a_o, .inr (0, [.ref a_o_reader, .ref a_o_writer])), (a_q, .inl (κ.2.2.2.1, 1, .inr (.inl q)))]) (rest := [.int 0, .ref a_q]) (As := [.long x1, .int x3]) hF zn_L_25 (k_D_whole κ X hX l a_o a_o_reader a_o_writer H.size x1 x3 o_6 ho_6) hX hXs hK hA hP hD hS ⟨by decide, by decide⟩ ⟨rfl, rfl, rfl, rfl, rfl, by decide⟩ ⟨rfl, fun _ => rfl, fun _ => rfl⟩ (ci := 0) rfl rfl rfl rfl hl.1 rfl (Nat.le_of_ble_eq_true rfl) ⟨Nat.zero_le _, Nat.zero_le _⟩ d_L_whole_6 (fun r_6 u H locs hw hP hD hS => ?_)
    subst hw
    refine va_last hx hb hK hP hD hS 1 2 rfl rfl (zin_vp (by decide)) d_L_whole_9 (fun H locs hP hD hS => ?_)
    have hP : zP κ [(a_o, .inr (0, [.ref a_o_reader, .ref a_o_writer])), (a_q, .inl (κ.2.2.2.1, 1, .inr (.inl (vp_updL q (0 : Int32).toNatClampNeg r_6))))] H := hP
    have hD : va_D A [(a_o, .inr (0, [.ref a_o_reader, .ref a_o_writer])), (a_q, .inl (κ.2.2.2.1, 1, .inr (.inl (vp_updL q (0 : Int32).toNatClampNeg r_6))))] := hD
    refine lv_goto (tgt := 17) hx hb d_L_whole_10 (by decide) ?_
    refine lv_iconst (v := 0) hx hb d_L_whole_17 (by decide) ?_
    exact hret ((0 : Int32)) ((vp_updL q (0 : Int32).toNatClampNeg r_6)) H locs ls _ 0 0 (Nat.zero_le _) (Nat.zero_le _) d_L_whole_18 hP hD hS (Option.some.inj hf)
  · rw [h9, Option.elim_some] at hf
    refine lv_aload hx hb d_L_whole_0 (lv_at hl 3 rfl) ?_
    refine lv_iconst (v := 0) hx hb d_L_whole_2 (by decide) ?_
    refine lv_aload_n hx hb d_L_whole_3 rfl (lv_at hl 0 rfl) ?_
    refine lv_lload_n hx hb d_L_whole_4 rfl (lv_at hl 1 rfl) ?_
    refine lv_iload_n hx hb d_L_whole_5 rfl (lv_at hl 2 rfl) ?_
    obtain rfl := t_D_whole_k h9
    have ht2 : c.exceptionTable.toList = [zEnt (0, 10, 13, 13)] := htab
    refine zVt (E := "java/lang/IllegalArgumentException") (isC := [0]) (rest := [.int 0, .ref a_q]) (As := [.long x1, .int x3]) hF zn_L_25 (kt_D_whole κ X hX hXE l hfl a_o a_o_reader a_o_writer H.size  x1 x3 1 h9) hX hXs hK hA hP hD hS ⟨by decide, by decide⟩ ⟨rfl, rfl, rfl⟩ (ci := 0) rfl rfl rfl rfl hl.1 rfl (Nat.le_of_ble_eq_true rfl) ⟨by decide, by decide⟩ d_L_whole_6 (hp := 13) (fun ha cX hcX => by rw [ht2]; exact (zcat_hd (x := zEnt (0, 10, 13, 13)) ha hown hcX (by decide) (by decide) (hts _ zcl_L_13))) (fun v H1 hsz hold => ?_)
    refine lv_astore (lv' := [(5, .ref v), (0, .ref a_o), (1, .long x1), (3, .int x3), (4, .ref a_q)]) hx hb d_L_whole_13 hl (by decide) rfl (fun ls hl => ?_)
    refine lv_iconst (v := 1) hx hb d_L_whole_15 (by decide) ?_
    exact hret 1 (q) H1 locs ls _ _ _ (by decide) (by decide) d_L_whole_16 (zkeepP hP hold) hD (zkeepS hS hsz hold) (Option.some.inj hf)
theorem d_L_radix_0 : decode c_L_radix 0 = .ok (.aload 4, 2) := by decide +kernel
theorem d_L_radix_2 : decode c_L_radix 2 = .ok (.iconst 0, 1) := by decide +kernel
theorem d_L_radix_3 : decode c_L_radix 3 = .ok (.aload_n 0, 1) := by decide +kernel
theorem d_L_radix_4 : decode c_L_radix 4 = .ok (.lload_n 1, 1) := by decide +kernel
theorem d_L_radix_5 : decode c_L_radix 5 = .ok (.iload_n 3, 1) := by decide +kernel
theorem d_L_radix_6 : decode c_L_radix 6 = .ok (.invokevirtual 28, 3) := by decide +kernel
theorem d_L_radix_9 : decode c_L_radix 9 = .ok (.i2l, 1) := by decide +kernel
theorem d_L_radix_10 : decode c_L_radix 10 = .ok (.lastore, 1) := by decide +kernel
theorem d_L_radix_11 : decode c_L_radix 11 = .ok (.goto 7, 3) := by decide +kernel
theorem d_L_radix_14 : decode c_L_radix 14 = .ok (.astore 5, 2) := by decide +kernel
theorem d_L_radix_16 : decode c_L_radix 16 = .ok (.iconst 1, 1) := by decide +kernel
theorem d_L_radix_17 : decode c_L_radix 17 = .ok (.ireturn, 1) := by decide +kernel
theorem d_L_radix_18 : decode c_L_radix 18 = .ok (.iconst 0, 1) := by decide +kernel
theorem d_L_radix_19 : decode c_L_radix 19 = .ok (.ireturn, 1) := by decide +kernel
noncomputable def w_L_radix (o_page_count : Int32) (o_page_units : Nat → Int32) (o_writer_natural_used : Int32) (o_writer_natural_limbs : Nat → Int32) (q : Nat → Int64) (x1 : Int64) (x3 : Int32) : Option (Int32 × ((Int32) × (Nat → Int32) × (Int32) × (Nat → Int32) × (Nat → Int64))) :=
  (t_D_radix o_page_count o_page_units o_writer_natural_used o_writer_natural_limbs x1 x3).elim ((f_D_radix o_page_count o_page_units o_writer_natural_used o_writer_natural_limbs x1 x3).bind fun (r_6, u6_o_page_count, u6_o_page_units, u6_o_writer_natural_used, u6_o_writer_natural_limbs) => (some ((0 : Int32), (u6_o_page_count, u6_o_page_units, u6_o_writer_natural_used, u6_o_writer_natural_limbs, (vp_updL q (0 : Int32).toNatClampNeg ((r_6).toInt64)))))) (fun k => some (zrk k, (o_page_count, o_page_units, o_writer_natural_used, o_writer_natural_limbs, q)))
theorem zn_L_28 : zNV R_L 28 y_D_radix c_D_radix 4 (some .int) 2 := ⟨zco_D_radix, zin_D, zml_L_28, zim_D_radix, zse_D_D_radix, by decide +kernel⟩
set_option maxHeartbeats 4000000 in
set_option maxRecDepth 100000 in
theorem kW_L_radix (κ : zC) (X : zXT) (hX : zX κ X) (hXE : zXE X) (l : Launch) (hfl : l.flags = flags0) (a_o a_q a_o_reader a_o_writer a_o_page a_o_writer_decimal a_o_writer_natural a_o_page_units a_o_writer_natural_limbs : Nat) (sz : Nat) (o_page_count : Int32) (o_page_units : Nat → Int32) (o_writer_natural_used : Int32) (o_writer_natural_limbs : Nat → Int32) (q : Nat → Int64) (x1 : Int64) (x3 : Int32) (out : Int32 × ((Int32) × (Nat → Int32) × (Int32) × (Nat → Int32) × (Nat → Int64))) (hf : w_L_radix o_page_count o_page_units o_writer_natural_used o_writer_natural_limbs q x1 x3 = some out) : zMetW κ X l y_L_radix c_L_radix 6 (some .int) [((0 : Nat), (11 : Nat), (14 : Nat), (13 : Nat))] 8 180 [.ref a_o, .long x1, .int x3, .ref a_q] sz [(a_o, .inr (0, [.ref a_o_reader, .ref a_o_writer])), (a_o_writer, .inr (5, [.ref a_o_page, .ref a_o_writer_decimal, .ref a_o_writer_natural])), (a_o_page, .inr (3, [.ref a_o_page_units, .int o_page_count])), (a_o_page_units, .inl (κ.2.2.1, 1100, .inl o_page_units)), (a_o_writer_natural, .inr (2, [.ref a_o_writer_natural_limbs, .int o_writer_natural_used])), (a_o_writer_natural_limbs, .inl (κ.2.1, 48, .inl o_writer_natural_limbs)), (a_q, .inl (κ.2.2.2.1, 1, .inr (.inl q)))] (zQi κ (fun (r : Int32) (u : (Int32) × (Nat → Int32) × (Int32) × (Nat → Int32) × (Nat → Int64)) => (r, u) = out) (fun u => [(a_o, .inr (0, [.ref a_o_reader, .ref a_o_writer])), (a_o_writer, .inr (5, [.ref a_o_page, .ref a_o_writer_decimal, .ref a_o_writer_natural])), (a_o_page, .inr (3, [.ref a_o_page_units, .int u.1])), (a_o_page_units, .inl (κ.2.2.1, 1100, .inl u.2.1)), (a_o_writer_natural, .inr (2, [.ref a_o_writer_natural_limbs, .int u.2.2.1])), (a_o_writer_natural_limbs, .inl (κ.2.1, 48, .inl u.2.2.2.1)), (a_q, .inl (κ.2.2.2.1, 1, .inr (.inl u.2.2.2.2)))])) := by
  refine zMetW.of (by decide +kernel) (Nat.le_of_ble_eq_true rfl) ?_
  intro p e s m args below meth c ls A Q hF htab hK hP hD hA hXs hS hl hret
  obtain ⟨hx, hb, hml, hown, hts⟩ := id hF
  obtain ⟨H, hH⟩ : ∃ H, H = s.heap := ⟨_, rfl⟩
  obtain ⟨locs, hlo⟩ : ∃ z : List Loc, z = [] := ⟨_, rfl⟩
  replace hP : zP κ [(a_o, .inr (0, [.ref a_o_reader, .ref a_o_writer])), (a_o_writer, .inr (5, [.ref a_o_page, .ref a_o_writer_decimal, .ref a_o_writer_natural])), (a_o_page, .inr (3, [.ref a_o_page_units, .int o_page_count])), (a_o_page_units, .inl (κ.2.2.1, 1100, .inl o_page_units)), (a_o_writer_natural, .inr (2, [.ref a_o_writer_natural_limbs, .int o_writer_natural_used])), (a_o_writer_natural_limbs, .inl (κ.2.1, 48, .inl o_writer_natural_limbs)), (a_q, .inl (κ.2.2.2.1, 1, .inr (.inl q)))] H := by rw [hH]; exact hP
  replace hS : va_S A s.heap H locs := by rw [hH, hlo]; exact hS
  suffices hgo : W p l e (zRT 8 180) s m args below meth c H locs 0 0 Q (F0 m 0 ls []) by rw [hH, hlo] at hgo; exact hgo
  clear hH hlo
  replace hl : lv_has ls 6 [(0, .ref a_o), (1, .long x1), (3, .int x3), (4, .ref a_q)] := hl
  unfold w_L_radix at hf
  rcases h9 : t_D_radix o_page_count o_page_units o_writer_natural_used o_writer_natural_limbs x1 x3 with _ | k
  · rw [h9, Option.elim_none] at hf
    refine lv_aload hx hb d_L_radix_0 (lv_at hl 3 rfl) ?_
    refine lv_iconst (v := 0) hx hb d_L_radix_2 (by decide) ?_
    refine lv_aload_n hx hb d_L_radix_3 rfl (lv_at hl 0 rfl) ?_
    refine lv_lload_n hx hb d_L_radix_4 rfl (lv_at hl 1 rfl) ?_
    refine lv_iload_n hx hb d_L_radix_5 rfl (lv_at hl 2 rfl) ?_
    obtain ⟨o_6, ho_6, hf⟩ := zbd hf
    refine zVi (isC := [0, 1, 2, 3, 4, 5]) (isR := [6]) (isN := [1, 2, 3, 4, 5, 6, 0]) (wc := [(a_o, .inr (0, [.ref a_o_reader, .ref a_o_writer])), (a_o_writer, .inr (5, [.ref a_o_page, .ref a_o_writer_decimal, .ref a_o_writer_natural])), (a_o_page, .inr (3, [.ref a_o_page_units, .int o_page_count])), (a_o_page_units, .inl (κ.2.2.1, 1100, .inl o_page_units)), (a_o_writer_natural, .inr (2, [.ref a_o_writer_natural_limbs, .int o_writer_natural_used])), (a_o_writer_natural_limbs, .inl (κ.2.1, 48, .inl o_writer_natural_limbs))]) (wr := [(a_q, .inl (κ.2.2.2.1, 1, .inr (.inl q)))]) (wn := fun u => [(a_o, .inr (0, [.ref a_o_reader, .ref a_o_writer])), (a_o_writer, .inr (5, [.ref a_o_page, .ref a_o_writer_decimal, .ref a_o_writer_natural])), (a_o_page, .inr (3, [.ref a_o_page_units, .int u.1])), (a_o_page_units, .inl (κ.2.2.1, 1100, .inl u.2.1)), (a_o_writer_natural, .inr (2, [.ref a_o_writer_natural_limbs, .int u.2.2.1])), (a_o_writer_natural_limbs, .inl (κ.2.1, 48, .inl u.2.2.2)), (a_q, .inl (κ.2.2.2.1, 1, .inr (.inl q)))]) (rest := [.int 0, .ref a_q]) (As := [.long x1, .int x3]) hF zn_L_28 (k_D_radix κ X hX l a_o a_o_reader a_o_writer a_o_page a_o_writer_decimal a_o_writer_natural a_o_page_units a_o_writer_natural_limbs H.size o_page_count o_page_units o_writer_natural_used o_writer_natural_limbs x1 x3 o_6 ho_6) hX hXs hK hA hP hD hS ⟨by decide, by decide⟩ ⟨rfl, rfl, rfl, rfl, rfl, by decide⟩ ⟨rfl, fun _ => rfl, fun _ => rfl⟩ (ci := 0) rfl rfl rfl rfl hl.1 rfl (Nat.le_of_ble_eq_true rfl) ⟨Nat.zero_le _, Nat.zero_le _⟩ d_L_radix_6 (fun r_6 u H locs hw hP hD hS => ?_)
    obtain ⟨u6_o_page_count, u6_o_page_units, u6_o_writer_natural_used, u6_o_writer_natural_limbs⟩ := u
    have hP : zP κ [(a_o, .inr (0, [.ref a_o_reader, .ref a_o_writer])), (a_o_writer, .inr (5, [.ref a_o_page, .ref a_o_writer_decimal, .ref a_o_writer_natural])), (a_o_page, .inr (3, [.ref a_o_page_units, .int u6_o_page_count])), (a_o_page_units, .inl (κ.2.2.1, 1100, .inl u6_o_page_units)), (a_o_writer_natural, .inr (2, [.ref a_o_writer_natural_limbs, .int u6_o_writer_natural_used])), (a_o_writer_natural_limbs, .inl (κ.2.1, 48, .inl u6_o_writer_natural_limbs)), (a_q, .inl (κ.2.2.2.1, 1, .inr (.inl q)))] H := hP
    have hD : va_D A [(a_o, .inr (0, [.ref a_o_reader, .ref a_o_writer])), (a_o_writer, .inr (5, [.ref a_o_page, .ref a_o_writer_decimal, .ref a_o_writer_natural])), (a_o_page, .inr (3, [.ref a_o_page_units, .int u6_o_page_count])), (a_o_page_units, .inl (κ.2.2.1, 1100, .inl u6_o_page_units)), (a_o_writer_natural, .inr (2, [.ref a_o_writer_natural_limbs, .int u6_o_writer_natural_used])), (a_o_writer_natural_limbs, .inl (κ.2.1, 48, .inl u6_o_writer_natural_limbs)), (a_q, .inl (κ.2.2.2.1, 1, .inr (.inl q)))] := hD
    subst hw
    dsimp only at hf
    refine lv_i2l hx hb d_L_radix_9 rfl ?_
    refine va_last hx hb hK hP hD hS 6 2 rfl rfl (zin_vp (by decide)) d_L_radix_10 (fun H locs hP hD hS => ?_)
    have hP : zP κ [(a_o, .inr (0, [.ref a_o_reader, .ref a_o_writer])), (a_o_writer, .inr (5, [.ref a_o_page, .ref a_o_writer_decimal, .ref a_o_writer_natural])), (a_o_page, .inr (3, [.ref a_o_page_units, .int u6_o_page_count])), (a_o_page_units, .inl (κ.2.2.1, 1100, .inl u6_o_page_units)), (a_o_writer_natural, .inr (2, [.ref a_o_writer_natural_limbs, .int u6_o_writer_natural_used])), (a_o_writer_natural_limbs, .inl (κ.2.1, 48, .inl u6_o_writer_natural_limbs)), (a_q, .inl (κ.2.2.2.1, 1, .inr (.inl (vp_updL q (0 : Int32).toNatClampNeg ((r_6).toInt64)))))] H := hP
    have hD : va_D A [(a_o, .inr (0, [.ref a_o_reader, .ref a_o_writer])), (a_o_writer, .inr (5, [.ref a_o_page, .ref a_o_writer_decimal, .ref a_o_writer_natural])), (a_o_page, .inr (3, [.ref a_o_page_units, .int u6_o_page_count])), (a_o_page_units, .inl (κ.2.2.1, 1100, .inl u6_o_page_units)), (a_o_writer_natural, .inr (2, [.ref a_o_writer_natural_limbs, .int u6_o_writer_natural_used])), (a_o_writer_natural_limbs, .inl (κ.2.1, 48, .inl u6_o_writer_natural_limbs)), (a_q, .inl (κ.2.2.2.1, 1, .inr (.inl (vp_updL q (0 : Int32).toNatClampNeg ((r_6).toInt64)))))] := hD
    refine lv_goto (tgt := 18) hx hb d_L_radix_11 (by decide) ?_
    refine lv_iconst (v := 0) hx hb d_L_radix_18 (by decide) ?_
    exact hret ((0 : Int32)) ((u6_o_page_count, u6_o_page_units, u6_o_writer_natural_used, u6_o_writer_natural_limbs, (vp_updL q (0 : Int32).toNatClampNeg ((r_6).toInt64)))) H locs ls _ 0 0 (Nat.zero_le _) (Nat.zero_le _) d_L_radix_19 hP hD hS (Option.some.inj hf)
  · rw [h9, Option.elim_some] at hf
    refine lv_aload hx hb d_L_radix_0 (lv_at hl 3 rfl) ?_
    refine lv_iconst (v := 0) hx hb d_L_radix_2 (by decide) ?_
    refine lv_aload_n hx hb d_L_radix_3 rfl (lv_at hl 0 rfl) ?_
    refine lv_lload_n hx hb d_L_radix_4 rfl (lv_at hl 1 rfl) ?_
    refine lv_iload_n hx hb d_L_radix_5 rfl (lv_at hl 2 rfl) ?_
    obtain rfl := t_D_radix_k h9
    have ht2 : c.exceptionTable.toList = [zEnt (0, 11, 14, 13)] := htab
    refine zVt (E := "java/lang/IllegalArgumentException") (isC := [0, 1, 2, 3, 4, 5]) (rest := [.int 0, .ref a_q]) (As := [.long x1, .int x3]) hF zn_L_28 (kt_D_radix κ X hX hXE l hfl a_o a_o_reader a_o_writer a_o_page a_o_writer_decimal a_o_writer_natural a_o_page_units a_o_writer_natural_limbs H.size o_page_count o_page_units o_writer_natural_used o_writer_natural_limbs x1 x3 1 h9) hX hXs hK hA hP hD hS ⟨by decide, by decide⟩ ⟨rfl, rfl, rfl⟩ (ci := 0) rfl rfl rfl rfl hl.1 rfl (Nat.le_of_ble_eq_true rfl) ⟨by decide, by decide⟩ d_L_radix_6 (hp := 14) (fun ha cX hcX => by rw [ht2]; exact (zcat_hd (x := zEnt (0, 11, 14, 13)) ha hown hcX (by decide) (by decide) (hts _ zcl_L_13))) (fun v H1 hsz hold => ?_)
    refine lv_astore (lv' := [(5, .ref v), (0, .ref a_o), (1, .long x1), (3, .int x3), (4, .ref a_q)]) hx hb d_L_radix_14 hl (by decide) rfl (fun ls hl => ?_)
    refine lv_iconst (v := 1) hx hb d_L_radix_16 (by decide) ?_
    exact hret 1 ((o_page_count, o_page_units, o_writer_natural_used, o_writer_natural_limbs, q)) H1 locs ls _ _ _ (by decide) (by decide) d_L_radix_17 (zkeepP hP hold) hD (zkeepS hS hsz hold) (Option.some.inj hf)
theorem d_L_form_0 : decode c_L_form 0 = .ok (.aload 5, 2) := by decide +kernel
theorem d_L_form_2 : decode c_L_form 2 = .ok (.iconst 0, 1) := by decide +kernel
theorem d_L_form_3 : decode c_L_form 3 = .ok (.aload_n 0, 1) := by decide +kernel
theorem d_L_form_4 : decode c_L_form 4 = .ok (.lload_n 1, 1) := by decide +kernel
theorem d_L_form_5 : decode c_L_form 5 = .ok (.iload_n 3, 1) := by decide +kernel
theorem d_L_form_6 : decode c_L_form 6 = .ok (.iload 4, 2) := by decide +kernel
theorem d_L_form_8 : decode c_L_form 8 = .ok (.invokevirtual 31, 3) := by decide +kernel
theorem d_L_form_11 : decode c_L_form 11 = .ok (.i2l, 1) := by decide +kernel
theorem d_L_form_12 : decode c_L_form 12 = .ok (.lastore, 1) := by decide +kernel
theorem d_L_form_13 : decode c_L_form 13 = .ok (.goto 7, 3) := by decide +kernel
theorem d_L_form_16 : decode c_L_form 16 = .ok (.astore 6, 2) := by decide +kernel
theorem d_L_form_18 : decode c_L_form 18 = .ok (.iconst 1, 1) := by decide +kernel
theorem d_L_form_19 : decode c_L_form 19 = .ok (.ireturn, 1) := by decide +kernel
theorem d_L_form_20 : decode c_L_form 20 = .ok (.iconst 0, 1) := by decide +kernel
theorem d_L_form_21 : decode c_L_form 21 = .ok (.ireturn, 1) := by decide +kernel
noncomputable def w_L_form (o_page_count : Int32) (o_page_units : Nat → Int32) (o_writer_decimal_count : Int32) (o_writer_decimal_point : Int32) (o_writer_decimal_digits : Nat → Int32) (o_writer_decimal_rest_used : Int32) (o_writer_decimal_rest_limbs : Nat → Int32) (o_writer_decimal_scale_used : Int32) (o_writer_decimal_scale_limbs : Nat → Int32) (o_writer_decimal_below_used : Int32) (o_writer_decimal_below_limbs : Nat → Int32) (o_writer_decimal_above_used : Int32) (o_writer_decimal_above_limbs : Nat → Int32) (o_writer_decimal_sum_used : Int32) (o_writer_decimal_sum_limbs : Nat → Int32) (q : Nat → Int64) (x1 : Int64) (x3 : Int32) (x4 : Int32) : Option (Int32 × ((Int32) × (Nat → Int32) × (Int32) × (Int32) × (Nat → Int32) × (Int32) × (Nat → Int32) × (Int32) × (Nat → Int32) × (Int32) × (Nat → Int32) × (Int32) × (Nat → Int32) × (Int32) × (Nat → Int32) × (Nat → Int64))) :=
  (t_D_form o_page_count o_page_units o_writer_decimal_count o_writer_decimal_point o_writer_decimal_digits o_writer_decimal_rest_used o_writer_decimal_rest_limbs o_writer_decimal_scale_used o_writer_decimal_scale_limbs o_writer_decimal_below_used o_writer_decimal_below_limbs o_writer_decimal_above_used o_writer_decimal_above_limbs o_writer_decimal_sum_used o_writer_decimal_sum_limbs x1 x3 x4).elim ((f_D_form o_page_count o_page_units o_writer_decimal_count o_writer_decimal_point o_writer_decimal_digits o_writer_decimal_rest_used o_writer_decimal_rest_limbs o_writer_decimal_scale_used o_writer_decimal_scale_limbs o_writer_decimal_below_used o_writer_decimal_below_limbs o_writer_decimal_above_used o_writer_decimal_above_limbs o_writer_decimal_sum_used o_writer_decimal_sum_limbs x1 x3 x4).bind fun (r_8, u8_o_page_count, u8_o_page_units, u8_o_writer_decimal_count, u8_o_writer_decimal_point, u8_o_writer_decimal_digits, u8_o_writer_decimal_rest_used, u8_o_writer_decimal_rest_limbs, u8_o_writer_decimal_scale_used, u8_o_writer_decimal_scale_limbs, u8_o_writer_decimal_below_used, u8_o_writer_decimal_below_limbs, u8_o_writer_decimal_above_used, u8_o_writer_decimal_above_limbs, u8_o_writer_decimal_sum_used, u8_o_writer_decimal_sum_limbs) => (some ((0 : Int32), (u8_o_page_count, u8_o_page_units, u8_o_writer_decimal_count, u8_o_writer_decimal_point, u8_o_writer_decimal_digits, u8_o_writer_decimal_rest_used, u8_o_writer_decimal_rest_limbs, u8_o_writer_decimal_scale_used, u8_o_writer_decimal_scale_limbs, u8_o_writer_decimal_below_used, u8_o_writer_decimal_below_limbs, u8_o_writer_decimal_above_used, u8_o_writer_decimal_above_limbs, u8_o_writer_decimal_sum_used, u8_o_writer_decimal_sum_limbs, (vp_updL q (0 : Int32).toNatClampNeg ((r_8).toInt64)))))) (fun k => some (zrk k, (o_page_count, o_page_units, o_writer_decimal_count, o_writer_decimal_point, o_writer_decimal_digits, o_writer_decimal_rest_used, o_writer_decimal_rest_limbs, o_writer_decimal_scale_used, o_writer_decimal_scale_limbs, o_writer_decimal_below_used, o_writer_decimal_below_limbs, o_writer_decimal_above_used, o_writer_decimal_above_limbs, o_writer_decimal_sum_used, o_writer_decimal_sum_limbs, q)))
theorem zn_L_31 : zNV R_L 31 y_D_form c_D_form 5 (some .int) 3 := ⟨zco_D_form, zin_D, zml_L_31, zim_D_form, zse_D_D_form, by decide +kernel⟩
set_option maxHeartbeats 4000000 in
set_option maxRecDepth 100000 in
theorem kW_L_form (κ : zC) (X : zXT) (hX : zX κ X) (hXE : zXE X) (l : Launch) (hfl : l.flags = flags0) (a_o a_q a_o_reader a_o_writer a_o_page a_o_writer_decimal a_o_writer_natural a_o_page_units a_o_writer_decimal_digits a_o_writer_decimal_rest a_o_writer_decimal_scale a_o_writer_decimal_below a_o_writer_decimal_above a_o_writer_decimal_sum a_o_writer_decimal_rest_limbs a_o_writer_decimal_scale_limbs a_o_writer_decimal_below_limbs a_o_writer_decimal_above_limbs a_o_writer_decimal_sum_limbs : Nat) (sz : Nat) (o_page_count : Int32) (o_page_units : Nat → Int32) (o_writer_decimal_count : Int32) (o_writer_decimal_point : Int32) (o_writer_decimal_digits : Nat → Int32) (o_writer_decimal_rest_used : Int32) (o_writer_decimal_rest_limbs : Nat → Int32) (o_writer_decimal_scale_used : Int32) (o_writer_decimal_scale_limbs : Nat → Int32) (o_writer_decimal_below_used : Int32) (o_writer_decimal_below_limbs : Nat → Int32) (o_writer_decimal_above_used : Int32) (o_writer_decimal_above_limbs : Nat → Int32) (o_writer_decimal_sum_used : Int32) (o_writer_decimal_sum_limbs : Nat → Int32) (q : Nat → Int64) (x1 : Int64) (x3 : Int32) (x4 : Int32) (out : Int32 × ((Int32) × (Nat → Int32) × (Int32) × (Int32) × (Nat → Int32) × (Int32) × (Nat → Int32) × (Int32) × (Nat → Int32) × (Int32) × (Nat → Int32) × (Int32) × (Nat → Int32) × (Int32) × (Nat → Int32) × (Nat → Int64))) (hf : w_L_form o_page_count o_page_units o_writer_decimal_count o_writer_decimal_point o_writer_decimal_digits o_writer_decimal_rest_used o_writer_decimal_rest_limbs o_writer_decimal_scale_used o_writer_decimal_scale_limbs o_writer_decimal_below_used o_writer_decimal_below_limbs o_writer_decimal_above_used o_writer_decimal_above_limbs o_writer_decimal_sum_used o_writer_decimal_sum_limbs q x1 x3 x4 = some out) : zMetW κ X l y_L_form c_L_form 7 (some .int) [((0 : Nat), (13 : Nat), (16 : Nat), (13 : Nat))] 8 178 [.ref a_o, .long x1, .int x3, .int x4, .ref a_q] sz [(a_o, .inr (0, [.ref a_o_reader, .ref a_o_writer])), (a_o_writer, .inr (5, [.ref a_o_page, .ref a_o_writer_decimal, .ref a_o_writer_natural])), (a_o_page, .inr (3, [.ref a_o_page_units, .int o_page_count])), (a_o_page_units, .inl (κ.2.2.1, 1100, .inl o_page_units)), (a_o_writer_decimal, .inr (1, [.ref a_o_writer_decimal_digits, .int o_writer_decimal_count, .int o_writer_decimal_point, .ref a_o_writer_decimal_rest, .ref a_o_writer_decimal_scale, .ref a_o_writer_decimal_below, .ref a_o_writer_decimal_above, .ref a_o_writer_decimal_sum])), (a_o_writer_decimal_digits, .inl (κ.2.1, 48, .inl o_writer_decimal_digits)), (a_o_writer_decimal_rest, .inr (2, [.ref a_o_writer_decimal_rest_limbs, .int o_writer_decimal_rest_used])), (a_o_writer_decimal_rest_limbs, .inl (κ.2.1, 48, .inl o_writer_decimal_rest_limbs)), (a_o_writer_decimal_scale, .inr (2, [.ref a_o_writer_decimal_scale_limbs, .int o_writer_decimal_scale_used])), (a_o_writer_decimal_scale_limbs, .inl (κ.2.1, 48, .inl o_writer_decimal_scale_limbs)), (a_o_writer_decimal_below, .inr (2, [.ref a_o_writer_decimal_below_limbs, .int o_writer_decimal_below_used])), (a_o_writer_decimal_below_limbs, .inl (κ.2.1, 48, .inl o_writer_decimal_below_limbs)), (a_o_writer_decimal_above, .inr (2, [.ref a_o_writer_decimal_above_limbs, .int o_writer_decimal_above_used])), (a_o_writer_decimal_above_limbs, .inl (κ.2.1, 48, .inl o_writer_decimal_above_limbs)), (a_o_writer_decimal_sum, .inr (2, [.ref a_o_writer_decimal_sum_limbs, .int o_writer_decimal_sum_used])), (a_o_writer_decimal_sum_limbs, .inl (κ.2.1, 48, .inl o_writer_decimal_sum_limbs)), (a_q, .inl (κ.2.2.2.1, 1, .inr (.inl q)))] (zQi κ (fun (r : Int32) (u : (Int32) × (Nat → Int32) × (Int32) × (Int32) × (Nat → Int32) × (Int32) × (Nat → Int32) × (Int32) × (Nat → Int32) × (Int32) × (Nat → Int32) × (Int32) × (Nat → Int32) × (Int32) × (Nat → Int32) × (Nat → Int64)) => (r, u) = out) (fun u => [(a_o, .inr (0, [.ref a_o_reader, .ref a_o_writer])), (a_o_writer, .inr (5, [.ref a_o_page, .ref a_o_writer_decimal, .ref a_o_writer_natural])), (a_o_page, .inr (3, [.ref a_o_page_units, .int u.1])), (a_o_page_units, .inl (κ.2.2.1, 1100, .inl u.2.1)), (a_o_writer_decimal, .inr (1, [.ref a_o_writer_decimal_digits, .int u.2.2.1, .int u.2.2.2.1, .ref a_o_writer_decimal_rest, .ref a_o_writer_decimal_scale, .ref a_o_writer_decimal_below, .ref a_o_writer_decimal_above, .ref a_o_writer_decimal_sum])), (a_o_writer_decimal_digits, .inl (κ.2.1, 48, .inl u.2.2.2.2.1)), (a_o_writer_decimal_rest, .inr (2, [.ref a_o_writer_decimal_rest_limbs, .int u.2.2.2.2.2.1])), (a_o_writer_decimal_rest_limbs, .inl (κ.2.1, 48, .inl u.2.2.2.2.2.2.1)), (a_o_writer_decimal_scale, .inr (2, [.ref a_o_writer_decimal_scale_limbs, .int u.2.2.2.2.2.2.2.1])), (a_o_writer_decimal_scale_limbs, .inl (κ.2.1, 48, .inl u.2.2.2.2.2.2.2.2.1)), (a_o_writer_decimal_below, .inr (2, [.ref a_o_writer_decimal_below_limbs, .int u.2.2.2.2.2.2.2.2.2.1])), (a_o_writer_decimal_below_limbs, .inl (κ.2.1, 48, .inl u.2.2.2.2.2.2.2.2.2.2.1)), (a_o_writer_decimal_above, .inr (2, [.ref a_o_writer_decimal_above_limbs, .int u.2.2.2.2.2.2.2.2.2.2.2.1])), (a_o_writer_decimal_above_limbs, .inl (κ.2.1, 48, .inl u.2.2.2.2.2.2.2.2.2.2.2.2.1)), (a_o_writer_decimal_sum, .inr (2, [.ref a_o_writer_decimal_sum_limbs, .int u.2.2.2.2.2.2.2.2.2.2.2.2.2.1])), (a_o_writer_decimal_sum_limbs, .inl (κ.2.1, 48, .inl u.2.2.2.2.2.2.2.2.2.2.2.2.2.2.1)), (a_q, .inl (κ.2.2.2.1, 1, .inr (.inl u.2.2.2.2.2.2.2.2.2.2.2.2.2.2.2)))])) := by
  refine zMetW.of (by decide +kernel) (Nat.le_of_ble_eq_true rfl) ?_
  intro p e s m args below meth c ls A Q hF htab hK hP hD hA hXs hS hl hret
  obtain ⟨hx, hb, hml, hown, hts⟩ := id hF
  obtain ⟨H, hH⟩ : ∃ H, H = s.heap := ⟨_, rfl⟩
  obtain ⟨locs, hlo⟩ : ∃ z : List Loc, z = [] := ⟨_, rfl⟩
  replace hP : zP κ [(a_o, .inr (0, [.ref a_o_reader, .ref a_o_writer])), (a_o_writer, .inr (5, [.ref a_o_page, .ref a_o_writer_decimal, .ref a_o_writer_natural])), (a_o_page, .inr (3, [.ref a_o_page_units, .int o_page_count])), (a_o_page_units, .inl (κ.2.2.1, 1100, .inl o_page_units)), (a_o_writer_decimal, .inr (1, [.ref a_o_writer_decimal_digits, .int o_writer_decimal_count, .int o_writer_decimal_point, .ref a_o_writer_decimal_rest, .ref a_o_writer_decimal_scale, .ref a_o_writer_decimal_below, .ref a_o_writer_decimal_above, .ref a_o_writer_decimal_sum])), (a_o_writer_decimal_digits, .inl (κ.2.1, 48, .inl o_writer_decimal_digits)), (a_o_writer_decimal_rest, .inr (2, [.ref a_o_writer_decimal_rest_limbs, .int o_writer_decimal_rest_used])), (a_o_writer_decimal_rest_limbs, .inl (κ.2.1, 48, .inl o_writer_decimal_rest_limbs)), (a_o_writer_decimal_scale, .inr (2, [.ref a_o_writer_decimal_scale_limbs, .int o_writer_decimal_scale_used])), (a_o_writer_decimal_scale_limbs, .inl (κ.2.1, 48, .inl o_writer_decimal_scale_limbs)), (a_o_writer_decimal_below, .inr (2, [.ref a_o_writer_decimal_below_limbs, .int o_writer_decimal_below_used])), (a_o_writer_decimal_below_limbs, .inl (κ.2.1, 48, .inl o_writer_decimal_below_limbs)), (a_o_writer_decimal_above, .inr (2, [.ref a_o_writer_decimal_above_limbs, .int o_writer_decimal_above_used])), (a_o_writer_decimal_above_limbs, .inl (κ.2.1, 48, .inl o_writer_decimal_above_limbs)), (a_o_writer_decimal_sum, .inr (2, [.ref a_o_writer_decimal_sum_limbs, .int o_writer_decimal_sum_used])), (a_o_writer_decimal_sum_limbs, .inl (κ.2.1, 48, .inl o_writer_decimal_sum_limbs)), (a_q, .inl (κ.2.2.2.1, 1, .inr (.inl q)))] H := by rw [hH]; exact hP
  replace hS : va_S A s.heap H locs := by rw [hH, hlo]; exact hS
  suffices hgo : W p l e (zRT 8 178) s m args below meth c H locs 0 0 Q (F0 m 0 ls []) by rw [hH, hlo] at hgo; exact hgo
  clear hH hlo
  replace hl : lv_has ls 7 [(0, .ref a_o), (1, .long x1), (3, .int x3), (4, .int x4), (5, .ref a_q)] := hl
  unfold w_L_form at hf
  rcases h9 : t_D_form o_page_count o_page_units o_writer_decimal_count o_writer_decimal_point o_writer_decimal_digits o_writer_decimal_rest_used o_writer_decimal_rest_limbs o_writer_decimal_scale_used o_writer_decimal_scale_limbs o_writer_decimal_below_used o_writer_decimal_below_limbs o_writer_decimal_above_used o_writer_decimal_above_limbs o_writer_decimal_sum_used o_writer_decimal_sum_limbs x1 x3 x4 with _ | k
  · rw [h9, Option.elim_none] at hf
    refine lv_aload hx hb d_L_form_0 (lv_at hl 4 rfl) ?_
    refine lv_iconst (v := 0) hx hb d_L_form_2 (by decide) ?_
    refine lv_aload_n hx hb d_L_form_3 rfl (lv_at hl 0 rfl) ?_
    refine lv_lload_n hx hb d_L_form_4 rfl (lv_at hl 1 rfl) ?_
    refine lv_iload_n hx hb d_L_form_5 rfl (lv_at hl 2 rfl) ?_
    refine lv_iload hx hb d_L_form_6 (lv_at hl 3 rfl) ?_
    obtain ⟨o_8, ho_8, hf⟩ := zbd hf
    refine zVi (isC := [0, 1, 2, 3, 4, 5, 6, 7, 8, 9, 10, 11, 12, 13, 14, 15]) (isR := [16]) (isN := [1, 2, 3, 4, 5, 6, 7, 8, 9, 10, 11, 12, 13, 14, 15, 16, 0]) (wc := [(a_o, .inr (0, [.ref a_o_reader, .ref a_o_writer])), (a_o_writer, .inr (5, [.ref a_o_page, .ref a_o_writer_decimal, .ref a_o_writer_natural])), (a_o_page, .inr (3, [.ref a_o_page_units, .int o_page_count])), (a_o_page_units, .inl (κ.2.2.1, 1100, .inl o_page_units)), (a_o_writer_decimal, .inr (1, [.ref a_o_writer_decimal_digits, .int o_writer_decimal_count, .int o_writer_decimal_point, .ref a_o_writer_decimal_rest, .ref a_o_writer_decimal_scale, .ref a_o_writer_decimal_below, .ref a_o_writer_decimal_above, .ref a_o_writer_decimal_sum])), (a_o_writer_decimal_digits, .inl (κ.2.1, 48, .inl o_writer_decimal_digits)), (a_o_writer_decimal_rest, .inr (2, [.ref a_o_writer_decimal_rest_limbs, .int o_writer_decimal_rest_used])), (a_o_writer_decimal_rest_limbs, .inl (κ.2.1, 48, .inl o_writer_decimal_rest_limbs)), (a_o_writer_decimal_scale, .inr (2, [.ref a_o_writer_decimal_scale_limbs, .int o_writer_decimal_scale_used])), (a_o_writer_decimal_scale_limbs, .inl (κ.2.1, 48, .inl o_writer_decimal_scale_limbs)), (a_o_writer_decimal_below, .inr (2, [.ref a_o_writer_decimal_below_limbs, .int o_writer_decimal_below_used])), (a_o_writer_decimal_below_limbs, .inl (κ.2.1, 48, .inl o_writer_decimal_below_limbs)), (a_o_writer_decimal_above, .inr (2, [.ref a_o_writer_decimal_above_limbs, .int o_writer_decimal_above_used])), (a_o_writer_decimal_above_limbs, .inl (κ.2.1, 48, .inl o_writer_decimal_above_limbs)), (a_o_writer_decimal_sum, .inr (2, [.ref a_o_writer_decimal_sum_limbs, .int o_writer_decimal_sum_used])), (a_o_writer_decimal_sum_limbs, .inl (κ.2.1, 48, .inl o_writer_decimal_sum_limbs))]) (wr := [(a_q, .inl (κ.2.2.2.1, 1, .inr (.inl q)))]) (wn := fun u => [(a_o, .inr (0, [.ref a_o_reader, .ref a_o_writer])), (a_o_writer, .inr (5, [.ref a_o_page, .ref a_o_writer_decimal, .ref a_o_writer_natural])), (a_o_page, .inr (3, [.ref a_o_page_units, .int u.1])), (a_o_page_units, .inl (κ.2.2.1, 1100, .inl u.2.1)), (a_o_writer_decimal, .inr (1, [.ref a_o_writer_decimal_digits, .int u.2.2.1, .int u.2.2.2.1, .ref a_o_writer_decimal_rest, .ref a_o_writer_decimal_scale, .ref a_o_writer_decimal_below, .ref a_o_writer_decimal_above, .ref a_o_writer_decimal_sum])), (a_o_writer_decimal_digits, .inl (κ.2.1, 48, .inl u.2.2.2.2.1)), (a_o_writer_decimal_rest, .inr (2, [.ref a_o_writer_decimal_rest_limbs, .int u.2.2.2.2.2.1])), (a_o_writer_decimal_rest_limbs, .inl (κ.2.1, 48, .inl u.2.2.2.2.2.2.1)), (a_o_writer_decimal_scale, .inr (2, [.ref a_o_writer_decimal_scale_limbs, .int u.2.2.2.2.2.2.2.1])), (a_o_writer_decimal_scale_limbs, .inl (κ.2.1, 48, .inl u.2.2.2.2.2.2.2.2.1)), (a_o_writer_decimal_below, .inr (2, [.ref a_o_writer_decimal_below_limbs, .int u.2.2.2.2.2.2.2.2.2.1])), (a_o_writer_decimal_below_limbs, .inl (κ.2.1, 48, .inl u.2.2.2.2.2.2.2.2.2.2.1)), (a_o_writer_decimal_above, .inr (2, [.ref a_o_writer_decimal_above_limbs, .int u.2.2.2.2.2.2.2.2.2.2.2.1])), (a_o_writer_decimal_above_limbs, .inl (κ.2.1, 48, .inl u.2.2.2.2.2.2.2.2.2.2.2.2.1)), (a_o_writer_decimal_sum, .inr (2, [.ref a_o_writer_decimal_sum_limbs, .int u.2.2.2.2.2.2.2.2.2.2.2.2.2.1])), (a_o_writer_decimal_sum_limbs, .inl (κ.2.1, 48, .inl u.2.2.2.2.2.2.2.2.2.2.2.2.2.2)), (a_q, .inl (κ.2.2.2.1, 1, .inr (.inl q)))]) (rest := [.int 0, .ref a_q]) (As := [.long x1, .int x3, .int x4]) hF zn_L_31 (k_D_form κ X hX l a_o a_o_reader a_o_writer a_o_page a_o_writer_decimal a_o_writer_natural a_o_page_units a_o_writer_decimal_digits a_o_writer_decimal_rest a_o_writer_decimal_scale a_o_writer_decimal_below a_o_writer_decimal_above a_o_writer_decimal_sum a_o_writer_decimal_rest_limbs a_o_writer_decimal_scale_limbs a_o_writer_decimal_below_limbs a_o_writer_decimal_above_limbs a_o_writer_decimal_sum_limbs H.size o_page_count o_page_units o_writer_decimal_count o_writer_decimal_point o_writer_decimal_digits o_writer_decimal_rest_used o_writer_decimal_rest_limbs o_writer_decimal_scale_used o_writer_decimal_scale_limbs o_writer_decimal_below_used o_writer_decimal_below_limbs o_writer_decimal_above_used o_writer_decimal_above_limbs o_writer_decimal_sum_used o_writer_decimal_sum_limbs x1 x3 x4 o_8 ho_8) hX hXs hK hA hP hD hS ⟨by decide, by decide⟩ ⟨rfl, rfl, rfl, rfl, rfl, by decide⟩ ⟨rfl, fun _ => rfl, fun _ => rfl⟩ (ci := 0) rfl rfl rfl rfl hl.1 rfl (Nat.le_of_ble_eq_true rfl) ⟨Nat.zero_le _, Nat.zero_le _⟩ d_L_form_8 (fun r_8 u H locs hw hP hD hS => ?_)
    obtain ⟨u8_o_page_count, u8_o_page_units, u8_o_writer_decimal_count, u8_o_writer_decimal_point, u8_o_writer_decimal_digits, u8_o_writer_decimal_rest_used, u8_o_writer_decimal_rest_limbs, u8_o_writer_decimal_scale_used, u8_o_writer_decimal_scale_limbs, u8_o_writer_decimal_below_used, u8_o_writer_decimal_below_limbs, u8_o_writer_decimal_above_used, u8_o_writer_decimal_above_limbs, u8_o_writer_decimal_sum_used, u8_o_writer_decimal_sum_limbs⟩ := u
    have hP : zP κ [(a_o, .inr (0, [.ref a_o_reader, .ref a_o_writer])), (a_o_writer, .inr (5, [.ref a_o_page, .ref a_o_writer_decimal, .ref a_o_writer_natural])), (a_o_page, .inr (3, [.ref a_o_page_units, .int u8_o_page_count])), (a_o_page_units, .inl (κ.2.2.1, 1100, .inl u8_o_page_units)), (a_o_writer_decimal, .inr (1, [.ref a_o_writer_decimal_digits, .int u8_o_writer_decimal_count, .int u8_o_writer_decimal_point, .ref a_o_writer_decimal_rest, .ref a_o_writer_decimal_scale, .ref a_o_writer_decimal_below, .ref a_o_writer_decimal_above, .ref a_o_writer_decimal_sum])), (a_o_writer_decimal_digits, .inl (κ.2.1, 48, .inl u8_o_writer_decimal_digits)), (a_o_writer_decimal_rest, .inr (2, [.ref a_o_writer_decimal_rest_limbs, .int u8_o_writer_decimal_rest_used])), (a_o_writer_decimal_rest_limbs, .inl (κ.2.1, 48, .inl u8_o_writer_decimal_rest_limbs)), (a_o_writer_decimal_scale, .inr (2, [.ref a_o_writer_decimal_scale_limbs, .int u8_o_writer_decimal_scale_used])), (a_o_writer_decimal_scale_limbs, .inl (κ.2.1, 48, .inl u8_o_writer_decimal_scale_limbs)), (a_o_writer_decimal_below, .inr (2, [.ref a_o_writer_decimal_below_limbs, .int u8_o_writer_decimal_below_used])), (a_o_writer_decimal_below_limbs, .inl (κ.2.1, 48, .inl u8_o_writer_decimal_below_limbs)), (a_o_writer_decimal_above, .inr (2, [.ref a_o_writer_decimal_above_limbs, .int u8_o_writer_decimal_above_used])), (a_o_writer_decimal_above_limbs, .inl (κ.2.1, 48, .inl u8_o_writer_decimal_above_limbs)), (a_o_writer_decimal_sum, .inr (2, [.ref a_o_writer_decimal_sum_limbs, .int u8_o_writer_decimal_sum_used])), (a_o_writer_decimal_sum_limbs, .inl (κ.2.1, 48, .inl u8_o_writer_decimal_sum_limbs)), (a_q, .inl (κ.2.2.2.1, 1, .inr (.inl q)))] H := hP
    have hD : va_D A [(a_o, .inr (0, [.ref a_o_reader, .ref a_o_writer])), (a_o_writer, .inr (5, [.ref a_o_page, .ref a_o_writer_decimal, .ref a_o_writer_natural])), (a_o_page, .inr (3, [.ref a_o_page_units, .int u8_o_page_count])), (a_o_page_units, .inl (κ.2.2.1, 1100, .inl u8_o_page_units)), (a_o_writer_decimal, .inr (1, [.ref a_o_writer_decimal_digits, .int u8_o_writer_decimal_count, .int u8_o_writer_decimal_point, .ref a_o_writer_decimal_rest, .ref a_o_writer_decimal_scale, .ref a_o_writer_decimal_below, .ref a_o_writer_decimal_above, .ref a_o_writer_decimal_sum])), (a_o_writer_decimal_digits, .inl (κ.2.1, 48, .inl u8_o_writer_decimal_digits)), (a_o_writer_decimal_rest, .inr (2, [.ref a_o_writer_decimal_rest_limbs, .int u8_o_writer_decimal_rest_used])), (a_o_writer_decimal_rest_limbs, .inl (κ.2.1, 48, .inl u8_o_writer_decimal_rest_limbs)), (a_o_writer_decimal_scale, .inr (2, [.ref a_o_writer_decimal_scale_limbs, .int u8_o_writer_decimal_scale_used])), (a_o_writer_decimal_scale_limbs, .inl (κ.2.1, 48, .inl u8_o_writer_decimal_scale_limbs)), (a_o_writer_decimal_below, .inr (2, [.ref a_o_writer_decimal_below_limbs, .int u8_o_writer_decimal_below_used])), (a_o_writer_decimal_below_limbs, .inl (κ.2.1, 48, .inl u8_o_writer_decimal_below_limbs)), (a_o_writer_decimal_above, .inr (2, [.ref a_o_writer_decimal_above_limbs, .int u8_o_writer_decimal_above_used])), (a_o_writer_decimal_above_limbs, .inl (κ.2.1, 48, .inl u8_o_writer_decimal_above_limbs)), (a_o_writer_decimal_sum, .inr (2, [.ref a_o_writer_decimal_sum_limbs, .int u8_o_writer_decimal_sum_used])), (a_o_writer_decimal_sum_limbs, .inl (κ.2.1, 48, .inl u8_o_writer_decimal_sum_limbs)), (a_q, .inl (κ.2.2.2.1, 1, .inr (.inl q)))] := hD
    subst hw
    dsimp only at hf
    refine lv_i2l hx hb d_L_form_11 rfl ?_
    refine va_last hx hb hK hP hD hS 16 2 rfl rfl (zin_vp (by decide)) d_L_form_12 (fun H locs hP hD hS => ?_)
    have hP : zP κ [(a_o, .inr (0, [.ref a_o_reader, .ref a_o_writer])), (a_o_writer, .inr (5, [.ref a_o_page, .ref a_o_writer_decimal, .ref a_o_writer_natural])), (a_o_page, .inr (3, [.ref a_o_page_units, .int u8_o_page_count])), (a_o_page_units, .inl (κ.2.2.1, 1100, .inl u8_o_page_units)), (a_o_writer_decimal, .inr (1, [.ref a_o_writer_decimal_digits, .int u8_o_writer_decimal_count, .int u8_o_writer_decimal_point, .ref a_o_writer_decimal_rest, .ref a_o_writer_decimal_scale, .ref a_o_writer_decimal_below, .ref a_o_writer_decimal_above, .ref a_o_writer_decimal_sum])), (a_o_writer_decimal_digits, .inl (κ.2.1, 48, .inl u8_o_writer_decimal_digits)), (a_o_writer_decimal_rest, .inr (2, [.ref a_o_writer_decimal_rest_limbs, .int u8_o_writer_decimal_rest_used])), (a_o_writer_decimal_rest_limbs, .inl (κ.2.1, 48, .inl u8_o_writer_decimal_rest_limbs)), (a_o_writer_decimal_scale, .inr (2, [.ref a_o_writer_decimal_scale_limbs, .int u8_o_writer_decimal_scale_used])), (a_o_writer_decimal_scale_limbs, .inl (κ.2.1, 48, .inl u8_o_writer_decimal_scale_limbs)), (a_o_writer_decimal_below, .inr (2, [.ref a_o_writer_decimal_below_limbs, .int u8_o_writer_decimal_below_used])), (a_o_writer_decimal_below_limbs, .inl (κ.2.1, 48, .inl u8_o_writer_decimal_below_limbs)), (a_o_writer_decimal_above, .inr (2, [.ref a_o_writer_decimal_above_limbs, .int u8_o_writer_decimal_above_used])), (a_o_writer_decimal_above_limbs, .inl (κ.2.1, 48, .inl u8_o_writer_decimal_above_limbs)), (a_o_writer_decimal_sum, .inr (2, [.ref a_o_writer_decimal_sum_limbs, .int u8_o_writer_decimal_sum_used])), (a_o_writer_decimal_sum_limbs, .inl (κ.2.1, 48, .inl u8_o_writer_decimal_sum_limbs)), (a_q, .inl (κ.2.2.2.1, 1, .inr (.inl (vp_updL q (0 : Int32).toNatClampNeg ((r_8).toInt64)))))] H := hP
    have hD : va_D A [(a_o, .inr (0, [.ref a_o_reader, .ref a_o_writer])), (a_o_writer, .inr (5, [.ref a_o_page, .ref a_o_writer_decimal, .ref a_o_writer_natural])), (a_o_page, .inr (3, [.ref a_o_page_units, .int u8_o_page_count])), (a_o_page_units, .inl (κ.2.2.1, 1100, .inl u8_o_page_units)), (a_o_writer_decimal, .inr (1, [.ref a_o_writer_decimal_digits, .int u8_o_writer_decimal_count, .int u8_o_writer_decimal_point, .ref a_o_writer_decimal_rest, .ref a_o_writer_decimal_scale, .ref a_o_writer_decimal_below, .ref a_o_writer_decimal_above, .ref a_o_writer_decimal_sum])), (a_o_writer_decimal_digits, .inl (κ.2.1, 48, .inl u8_o_writer_decimal_digits)), (a_o_writer_decimal_rest, .inr (2, [.ref a_o_writer_decimal_rest_limbs, .int u8_o_writer_decimal_rest_used])), (a_o_writer_decimal_rest_limbs, .inl (κ.2.1, 48, .inl u8_o_writer_decimal_rest_limbs)), (a_o_writer_decimal_scale, .inr (2, [.ref a_o_writer_decimal_scale_limbs, .int u8_o_writer_decimal_scale_used])), (a_o_writer_decimal_scale_limbs, .inl (κ.2.1, 48, .inl u8_o_writer_decimal_scale_limbs)), (a_o_writer_decimal_below, .inr (2, [.ref a_o_writer_decimal_below_limbs, .int u8_o_writer_decimal_below_used])), (a_o_writer_decimal_below_limbs, .inl (κ.2.1, 48, .inl u8_o_writer_decimal_below_limbs)), (a_o_writer_decimal_above, .inr (2, [.ref a_o_writer_decimal_above_limbs, .int u8_o_writer_decimal_above_used])), (a_o_writer_decimal_above_limbs, .inl (κ.2.1, 48, .inl u8_o_writer_decimal_above_limbs)), (a_o_writer_decimal_sum, .inr (2, [.ref a_o_writer_decimal_sum_limbs, .int u8_o_writer_decimal_sum_used])), (a_o_writer_decimal_sum_limbs, .inl (κ.2.1, 48, .inl u8_o_writer_decimal_sum_limbs)), (a_q, .inl (κ.2.2.2.1, 1, .inr (.inl (vp_updL q (0 : Int32).toNatClampNeg ((r_8).toInt64)))))] := hD
    refine lv_goto (tgt := 20) hx hb d_L_form_13 (by decide) ?_
    refine lv_iconst (v := 0) hx hb d_L_form_20 (by decide) ?_
    exact hret ((0 : Int32)) ((u8_o_page_count, u8_o_page_units, u8_o_writer_decimal_count, u8_o_writer_decimal_point, u8_o_writer_decimal_digits, u8_o_writer_decimal_rest_used, u8_o_writer_decimal_rest_limbs, u8_o_writer_decimal_scale_used, u8_o_writer_decimal_scale_limbs, u8_o_writer_decimal_below_used, u8_o_writer_decimal_below_limbs, u8_o_writer_decimal_above_used, u8_o_writer_decimal_above_limbs, u8_o_writer_decimal_sum_used, u8_o_writer_decimal_sum_limbs, (vp_updL q (0 : Int32).toNatClampNeg ((r_8).toInt64)))) H locs ls _ 0 0 (Nat.zero_le _) (Nat.zero_le _) d_L_form_21 hP hD hS (Option.some.inj hf)
  · rw [h9, Option.elim_some] at hf
    refine lv_aload hx hb d_L_form_0 (lv_at hl 4 rfl) ?_
    refine lv_iconst (v := 0) hx hb d_L_form_2 (by decide) ?_
    refine lv_aload_n hx hb d_L_form_3 rfl (lv_at hl 0 rfl) ?_
    refine lv_lload_n hx hb d_L_form_4 rfl (lv_at hl 1 rfl) ?_
    refine lv_iload_n hx hb d_L_form_5 rfl (lv_at hl 2 rfl) ?_
    refine lv_iload hx hb d_L_form_6 (lv_at hl 3 rfl) ?_
    obtain rfl := t_D_form_k h9
    have ht2 : c.exceptionTable.toList = [zEnt (0, 13, 16, 13)] := htab
    refine zVt (E := "java/lang/IllegalArgumentException") (isC := [0, 1, 2, 3, 4, 5, 6, 7, 8, 9, 10, 11, 12, 13, 14, 15]) (rest := [.int 0, .ref a_q]) (As := [.long x1, .int x3, .int x4]) hF zn_L_31 (kt_D_form κ X hX hXE l hfl a_o a_o_reader a_o_writer a_o_page a_o_writer_decimal a_o_writer_natural a_o_page_units a_o_writer_decimal_digits a_o_writer_decimal_rest a_o_writer_decimal_scale a_o_writer_decimal_below a_o_writer_decimal_above a_o_writer_decimal_sum a_o_writer_decimal_rest_limbs a_o_writer_decimal_scale_limbs a_o_writer_decimal_below_limbs a_o_writer_decimal_above_limbs a_o_writer_decimal_sum_limbs H.size o_page_count o_page_units o_writer_decimal_count o_writer_decimal_point o_writer_decimal_digits o_writer_decimal_rest_used o_writer_decimal_rest_limbs o_writer_decimal_scale_used o_writer_decimal_scale_limbs o_writer_decimal_below_used o_writer_decimal_below_limbs o_writer_decimal_above_used o_writer_decimal_above_limbs o_writer_decimal_sum_used o_writer_decimal_sum_limbs x1 x3 x4 1 h9) hX hXs hK hA hP hD hS ⟨by decide, by decide⟩ ⟨rfl, rfl, rfl⟩ (ci := 0) rfl rfl rfl rfl hl.1 rfl (Nat.le_of_ble_eq_true rfl) ⟨by decide, by decide⟩ d_L_form_8 (hp := 16) (fun ha cX hcX => by rw [ht2]; exact (zcat_hd (x := zEnt (0, 13, 16, 13)) ha hown hcX (by decide) (by decide) (hts _ zcl_L_13))) (fun v H1 hsz hold => ?_)
    refine lv_astore (lv' := [(6, .ref v), (0, .ref a_o), (1, .long x1), (3, .int x3), (4, .int x4), (5, .ref a_q)]) hx hb d_L_form_16 hl (by decide) rfl (fun ls hl => ?_)
    refine lv_iconst (v := 1) hx hb d_L_form_18 (by decide) ?_
    exact hret 1 ((o_page_count, o_page_units, o_writer_decimal_count, o_writer_decimal_point, o_writer_decimal_digits, o_writer_decimal_rest_used, o_writer_decimal_rest_limbs, o_writer_decimal_scale_used, o_writer_decimal_scale_limbs, o_writer_decimal_below_used, o_writer_decimal_below_limbs, o_writer_decimal_above_used, o_writer_decimal_above_limbs, o_writer_decimal_sum_used, o_writer_decimal_sum_limbs, q)) H1 locs ls _ _ _ (by decide) (by decide) d_L_form_19 (zkeepP hP hold) hD (zkeepS hS hsz hold) (Option.some.inj hf)
theorem d_L_unit_0 : decode c_L_unit 0 = .ok (.aload_n 2, 1) := by decide +kernel
theorem d_L_unit_1 : decode c_L_unit 1 = .ok (.iconst 0, 1) := by decide +kernel
theorem d_L_unit_2 : decode c_L_unit 2 = .ok (.aload_n 0, 1) := by decide +kernel
theorem d_L_unit_3 : decode c_L_unit 3 = .ok (.iload_n 1, 1) := by decide +kernel
theorem d_L_unit_4 : decode c_L_unit 4 = .ok (.invokevirtual 35, 3) := by decide +kernel
theorem d_L_unit_7 : decode c_L_unit 7 = .ok (.i2l, 1) := by decide +kernel
theorem d_L_unit_8 : decode c_L_unit 8 = .ok (.lastore, 1) := by decide +kernel
theorem d_L_unit_9 : decode c_L_unit 9 = .ok (.goto 6, 3) := by decide +kernel
theorem d_L_unit_12 : decode c_L_unit 12 = .ok (.astore_n 3, 1) := by decide +kernel
theorem d_L_unit_13 : decode c_L_unit 13 = .ok (.iconst 1, 1) := by decide +kernel
theorem d_L_unit_14 : decode c_L_unit 14 = .ok (.ireturn, 1) := by decide +kernel
theorem d_L_unit_15 : decode c_L_unit 15 = .ok (.iconst 0, 1) := by decide +kernel
theorem d_L_unit_16 : decode c_L_unit 16 = .ok (.ireturn, 1) := by decide +kernel
noncomputable def w_L_unit (o_page_count : Int32) (o_page_units : Nat → Int32) (q : Nat → Int64) (x1 : Int32) : Option (Int32 × ((Nat → Int64))) :=
  (t_D_unit o_page_count o_page_units x1).elim ((f_D_unit o_page_count o_page_units x1).bind fun r_4 => (some ((0 : Int32), (vp_updL q (0 : Int32).toNatClampNeg ((r_4).toInt64))))) (fun k => some (zrk k, q))
theorem zn_L_35 : zNV R_L 35 y_D_unit c_D_unit 2 (some .int) 1 := ⟨zco_D_unit, zin_D, zml_L_35, zim_D_unit, zse_D_D_unit, by decide +kernel⟩
set_option maxHeartbeats 4000000 in
set_option maxRecDepth 100000 in
theorem kW_L_unit (κ : zC) (X : zXT) (hX : zX κ X) (hXE : zXE X) (l : Launch) (hfl : l.flags = flags0) (a_o a_q a_o_reader a_o_writer a_o_page a_o_writer_decimal a_o_writer_natural a_o_page_units : Nat) (sz : Nat) (o_page_count : Int32) (o_page_units : Nat → Int32) (q : Nat → Int64) (x1 : Int32) (out : Int32 × ((Nat → Int64))) (hf : w_L_unit o_page_count o_page_units q x1 = some out) : zMetW κ X l y_L_unit c_L_unit 4 (some .int) [((0 : Nat), (9 : Nat), (12 : Nat), (39 : Nat))] 7 103 [.ref a_o, .int x1, .ref a_q] sz [(a_o, .inr (0, [.ref a_o_reader, .ref a_o_writer])), (a_o_writer, .inr (5, [.ref a_o_page, .ref a_o_writer_decimal, .ref a_o_writer_natural])), (a_o_page, .inr (3, [.ref a_o_page_units, .int o_page_count])), (a_o_page_units, .inl (κ.2.2.1, 1100, .inl o_page_units)), (a_q, .inl (κ.2.2.2.1, 1, .inr (.inl q)))] (zQi κ (fun (r : Int32) (u : (Nat → Int64)) => (r, u) = out) (fun u => [(a_o, .inr (0, [.ref a_o_reader, .ref a_o_writer])), (a_o_writer, .inr (5, [.ref a_o_page, .ref a_o_writer_decimal, .ref a_o_writer_natural])), (a_o_page, .inr (3, [.ref a_o_page_units, .int o_page_count])), (a_o_page_units, .inl (κ.2.2.1, 1100, .inl o_page_units)), (a_q, .inl (κ.2.2.2.1, 1, .inr (.inl u)))])) := by
  refine zMetW.of (by decide +kernel) (Nat.le_of_ble_eq_true rfl) ?_
  intro p e s m args below meth c ls A Q hF htab hK hP hD hA hXs hS hl hret
  obtain ⟨hx, hb, hml, hown, hts⟩ := id hF
  obtain ⟨H, hH⟩ : ∃ H, H = s.heap := ⟨_, rfl⟩
  obtain ⟨locs, hlo⟩ : ∃ z : List Loc, z = [] := ⟨_, rfl⟩
  replace hP : zP κ [(a_o, .inr (0, [.ref a_o_reader, .ref a_o_writer])), (a_o_writer, .inr (5, [.ref a_o_page, .ref a_o_writer_decimal, .ref a_o_writer_natural])), (a_o_page, .inr (3, [.ref a_o_page_units, .int o_page_count])), (a_o_page_units, .inl (κ.2.2.1, 1100, .inl o_page_units)), (a_q, .inl (κ.2.2.2.1, 1, .inr (.inl q)))] H := by rw [hH]; exact hP
  replace hS : va_S A s.heap H locs := by rw [hH, hlo]; exact hS
  suffices hgo : W p l e (zRT 7 103) s m args below meth c H locs 0 0 Q (F0 m 0 ls []) by rw [hH, hlo] at hgo; exact hgo
  clear hH hlo
  replace hl : lv_has ls 4 [(0, .ref a_o), (1, .int x1), (2, .ref a_q)] := hl
  unfold w_L_unit at hf
  rcases h9 : t_D_unit o_page_count o_page_units x1 with _ | k
  · rw [h9, Option.elim_none] at hf
    refine lv_aload_n hx hb d_L_unit_0 rfl (lv_at hl 2 rfl) ?_
    refine lv_iconst (v := 0) hx hb d_L_unit_1 (by decide) ?_
    refine lv_aload_n hx hb d_L_unit_2 rfl (lv_at hl 0 rfl) ?_
    refine lv_iload_n hx hb d_L_unit_3 rfl (lv_at hl 1 rfl) ?_
    obtain ⟨o_4, ho_4, hf⟩ := zbd hf
    refine zVi (isC := [0, 1, 2, 3]) (isR := [4]) (isN := [1, 2, 3, 4, 0]) (wc := [(a_o, .inr (0, [.ref a_o_reader, .ref a_o_writer])), (a_o_writer, .inr (5, [.ref a_o_page, .ref a_o_writer_decimal, .ref a_o_writer_natural])), (a_o_page, .inr (3, [.ref a_o_page_units, .int o_page_count])), (a_o_page_units, .inl (κ.2.2.1, 1100, .inl o_page_units))]) (wr := [(a_q, .inl (κ.2.2.2.1, 1, .inr (.inl q)))]) (wn := fun u => [(a_o, .inr (0, [.ref a_o_reader, .ref a_o_writer])), (a_o_writer, .inr (5, [.ref a_o_page, .ref a_o_writer_decimal, .ref a_o_writer_natural])), (a_o_page, .inr (3, [.ref a_o_page_units, .int o_page_count])), (a_o_page_units, .inl (κ.2.2.1, 1100, .inl o_page_units)), (a_q, .inl (κ.2.2.2.1, 1, .inr (.inl q)))]) (rest := [.int 0, .ref a_q]) (As := [.int x1]) hF zn_L_35 (k_D_unit κ X hX l a_o a_o_reader a_o_writer a_o_page a_o_writer_decimal a_o_writer_natural a_o_page_units H.size o_page_count o_page_units x1 o_4 ho_4) hX hXs hK hA hP hD hS ⟨by decide, by decide⟩ ⟨rfl, rfl, rfl, rfl, rfl, by decide⟩ ⟨rfl, fun _ => rfl, fun _ => rfl⟩ (ci := 0) rfl rfl rfl rfl hl.1 rfl (Nat.le_of_ble_eq_true rfl) ⟨Nat.zero_le _, Nat.zero_le _⟩ d_L_unit_4 (fun r_4 u H locs hw hP hD hS => ?_)
    subst hw
    refine lv_i2l hx hb d_L_unit_7 rfl ?_
    refine va_last hx hb hK hP hD hS 4 2 rfl rfl (zin_vp (by decide)) d_L_unit_8 (fun H locs hP hD hS => ?_)
    have hP : zP κ [(a_o, .inr (0, [.ref a_o_reader, .ref a_o_writer])), (a_o_writer, .inr (5, [.ref a_o_page, .ref a_o_writer_decimal, .ref a_o_writer_natural])), (a_o_page, .inr (3, [.ref a_o_page_units, .int o_page_count])), (a_o_page_units, .inl (κ.2.2.1, 1100, .inl o_page_units)), (a_q, .inl (κ.2.2.2.1, 1, .inr (.inl (vp_updL q (0 : Int32).toNatClampNeg ((r_4).toInt64)))))] H := hP
    have hD : va_D A [(a_o, .inr (0, [.ref a_o_reader, .ref a_o_writer])), (a_o_writer, .inr (5, [.ref a_o_page, .ref a_o_writer_decimal, .ref a_o_writer_natural])), (a_o_page, .inr (3, [.ref a_o_page_units, .int o_page_count])), (a_o_page_units, .inl (κ.2.2.1, 1100, .inl o_page_units)), (a_q, .inl (κ.2.2.2.1, 1, .inr (.inl (vp_updL q (0 : Int32).toNatClampNeg ((r_4).toInt64)))))] := hD
    refine lv_goto (tgt := 15) hx hb d_L_unit_9 (by decide) ?_
    refine lv_iconst (v := 0) hx hb d_L_unit_15 (by decide) ?_
    exact hret ((0 : Int32)) ((vp_updL q (0 : Int32).toNatClampNeg ((r_4).toInt64))) H locs ls _ 0 0 (Nat.zero_le _) (Nat.zero_le _) d_L_unit_16 hP hD hS (Option.some.inj hf)
  · rw [h9, Option.elim_some] at hf
    refine lv_aload_n hx hb d_L_unit_0 rfl (lv_at hl 2 rfl) ?_
    refine lv_iconst (v := 0) hx hb d_L_unit_1 (by decide) ?_
    refine lv_aload_n hx hb d_L_unit_2 rfl (lv_at hl 0 rfl) ?_
    refine lv_iload_n hx hb d_L_unit_3 rfl (lv_at hl 1 rfl) ?_
    obtain rfl := t_D_unit_k h9
    have ht2 : c.exceptionTable.toList = [zEnt (0, 9, 12, 39)] := htab
    refine zVt (E := "java/lang/IndexOutOfBoundsException") (isC := [0, 1, 2, 3]) (rest := [.int 0, .ref a_q]) (As := [.int x1]) hF zn_L_35 (kt_D_unit κ X hX hXE l hfl a_o a_o_reader a_o_writer a_o_page a_o_writer_decimal a_o_writer_natural a_o_page_units H.size o_page_count o_page_units x1 3 h9) hX hXs hK hA hP hD hS ⟨by decide, by decide⟩ ⟨rfl, rfl, rfl⟩ (ci := 0) rfl rfl rfl rfl hl.1 rfl (Nat.le_of_ble_eq_true rfl) ⟨by decide, by decide⟩ d_L_unit_4 (hp := 12) (fun ha cX hcX => by rw [ht2]; exact (zcat_hd (x := zEnt (0, 9, 12, 39)) ha hown hcX (by decide) (by decide) (hts _ zcl_L_39))) (fun v H1 hsz hold => ?_)
    refine lv_astore_n (lv' := [(3, .ref v), (0, .ref a_o), (1, .int x1), (2, .ref a_q)]) hx hb d_L_unit_12 rfl hl (by decide) rfl (fun ls hl => ?_)
    refine lv_iconst (v := 1) hx hb d_L_unit_13 (by decide) ?_
    exact hret 1 (q) H1 locs ls _ _ _ (by decide) (by decide) d_L_unit_14 (zkeepP hP hold) hD (zkeepS hS hsz hold) (Option.some.inj hf)
