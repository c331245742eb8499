def zRl (rc : Int32) (ru : Nat → Int32) (pc : Int32) (pu : Nat → Int32) (ms mo : Int32) (mt mout mr : Nat → Int32) : Prop := tR rc ms ru mt ∧ mOK mr ∧ pS pc pu mo mout
def zRelT (y : zLT) : Prop := zRl y.1 y.2.2.2.2.2.1 y.2.2.2.2.2.2.2.2.2.2.1 y.2.2.2.2.2.2.2.2.2.2.2.1 y.2.2.2.2.2.2.2.2.2.2.2.2.2.2.2.2.2.2.2.2.2.2.2.2.2.2.2.2.1 y.2.2.2.2.2.2.2.2.2.2.2.2.2.2.2.2.2.2.2.2.2.2.2.2.2.2.2.2.2.1 y.2.2.2.2.2.2.2.2.2.2.2.2.2.2.2.2.2.2.2.2.2.2.2.2.2.2.2.2.2.2.2.2.1 y.2.2.2.2.2.2.2.2.2.2.2.2.2.2.2.2.2.2.2.2.2.2.2.2.2.2.2.2.2.2.2.2.2.1 y.2.2.2.2.2.2.2.2.2.2.2.2.2.2.2.2.2.2.2.2.2.2.2.2.2.2.2.2.2.2.2.2.2.2.1
abbrev zx4 (y : zLT) : Int32 := y.2.2.2.2.2.2.2.2.2.2.2.2.2.2.2.2.2.2.2.2.2.2.2.2.2.2.2.2.2.2.2.2.2.2.2.2.2
theorem zi (c : Int32) {x4 : Int32} {L : Nat} (hc : 0 ≤ c.toInt ∧ c.toInt ≤ 5) (h0 : 0 ≤ x4.toInt) (hL : x4.toInt + 6 ≤ L) (h2 : L < 2147483648) : zin (x4 + c) L := by
  have e : (x4 + c).toInt = x4.toInt + c.toInt := i_add (by omega) (by omega)
  exact ⟨by omega, by omega⟩
set_option maxRecDepth 100000 in
theorem lp_c0 (L : Nat) (xs : Nat → Int32) (x_reader_count : Int32) (x_reader_at : Int32) (x_reader_end : Int32) (x_reader_counting : Int32) (x_reader_power : Int32) (x_reader_units : Nat → Int32) (x_reader_numerator_used : Int32) (x_reader_numerator_limbs : Nat → Int32) (x_reader_denominator_used : Int32) (x_reader_denominator_limbs : Nat → Int32) (x_page_count : Int32) (x_page_units : Nat → Int32) (x_writer_decimal_count : Int32) (x_writer_decimal_point : Int32) (x_writer_decimal_digits : Nat → Int32) (x_writer_decimal_rest_used : Int32) (x_writer_decimal_rest_limbs : Nat → Int32) (x_writer_decimal_scale_used : Int32) (x_writer_decimal_scale_limbs : Nat → Int32) (x_writer_decimal_below_used : Int32) (x_writer_decimal_below_limbs : Nat → Int32) (x_writer_decimal_above_used : Int32) (x_writer_decimal_above_limbs : Nat → Int32) (x_writer_decimal_sum_used : Int32) (x_writer_decimal_sum_limbs : Nat → Int32) (x_writer_natural_used : Int32) (x_writer_natural_limbs : Nat → Int32) (m_thrown : Int32) (m_size : Int32) (m_outs : Int32) (m_count : Int32) (m_point : Int32) (m_text : Nat → Int32) (m_out : Nat → Int32) (m_rows : Nat → Int32) (m_digits : Nat → Int32) (q : Nat → Int64) (x4 : Int32) (h0 : 0 ≤ x4.toInt) (hL : x4.toInt + 6 ≤ L) (h2 : L < 2147483648) (hR : zRl x_reader_count x_reader_units x_page_count x_page_units m_size m_outs m_text m_out m_rows) : ∃ y : zLT, f_L_law_c0 L xs x_reader_count x_reader_at x_reader_end x_reader_counting x_reader_power x_reader_units x_reader_numerator_used x_reader_numerator_limbs x_reader_denominator_used x_reader_denominator_limbs x_page_count x_page_units x_writer_decimal_count x_writer_decimal_point x_writer_decimal_digits x_writer_decimal_rest_used x_writer_decimal_rest_limbs x_writer_decimal_scale_used x_writer_decimal_scale_limbs x_writer_decimal_below_used x_writer_decimal_below_limbs x_writer_decimal_above_used x_writer_decimal_above_limbs x_writer_decimal_sum_used x_writer_decimal_sum_limbs x_writer_natural_used x_writer_natural_limbs m_thrown m_size m_outs m_count m_point m_text m_out m_rows m_digits q x4 = some (Sum.inl y) ∧ zRelT y ∧ zx4 y = x4 + 6 := by
  obtain ⟨hT, hM, hS⟩ := hR
  have z1 := zi 1 ⟨by decide, by decide⟩ h0 hL h2
  have z2 := zi 2 ⟨by decide, by decide⟩ h0 hL h2
  have z3 := zi 3 ⟨by decide, by decide⟩ h0 hL h2
  obtain ⟨k, rc1, ru1, q1, d, ms1, mt1, w1, w2, w3, w4⟩ := ro_put x_reader_at x_reader_end x_reader_counting x_reader_power m_thrown m_outs m_count m_point hT q ((jlshl ((xs (x4 + 1).toNatClampNeg)).toInt64 32) ||| (((xs (x4 + 2).toNatClampNeg)).toInt64 &&& 4294967295)) (xs (x4 + 3).toNatClampNeg)
  unfold f_L_law_c0
  rw [if_pos z1, if_pos z2, if_pos z3, w1, Option.bind_some]
  dsimp only
  rw [if_pos z1, if_pos z2, if_pos z3, w2, Option.bind_some]
  dsimp only
  rw [show f_M_thrown k ms1 m_outs m_count m_point = some k from rfl, Option.bind_some, if_pos rfl]
  by_cases hk : k = 0
  · rw [if_pos hk, if_pos (w3 hk)]
    exact ⟨_, rfl, ⟨w4, hM, hS⟩, rfl⟩
  · rw [if_neg hk]
    exact ⟨_, rfl, ⟨w4, hM, hS⟩, rfl⟩
set_option maxRecDepth 100000 in
theorem lp_c1 (L : Nat) (xs : Nat → Int32) (x_reader_count : Int32) (x_reader_at : Int32) (x_reader_end : Int32) (x_reader_counting : Int32) (x_reader_power : Int32) (x_reader_units : Nat → Int32) (x_reader_numerator_used : Int32) (x_reader_numerator_limbs : Nat → Int32) (x_reader_denominator_used : Int32) (x_reader_denominator_limbs : Nat → Int32) (x_page_count : Int32) (x_page_units : Nat → Int32) (x_writer_decimal_count : Int32) (x_writer_decimal_point : Int32) (x_writer_decimal_digits : Nat → Int32) (x_writer_decimal_rest_used : Int32) (x_writer_decimal_rest_limbs : Nat → Int32) (x_writer_decimal_scale_used : Int32) (x_writer_decimal_scale_limbs : Nat → Int32) (x_writer_decimal_below_used : Int32) (x_writer_decimal_below_limbs : Nat → Int32) (x_writer_decimal_above_used : Int32) (x_writer_decimal_above_limbs : Nat → Int32) (x_writer_decimal_sum_used : Int32) (x_writer_decimal_sum_limbs : Nat → Int32) (x_writer_natural_used : Int32) (x_writer_natural_limbs : Nat → Int32) (m_thrown : Int32) (m_size : Int32) (m_outs : Int32) (m_count : Int32) (m_point : Int32) (m_text : Nat → Int32) (m_out : Nat → Int32) (m_rows : Nat → Int32) (m_digits : Nat → Int32) (q : Nat → Int64) (x4 : Int32) (h0 : 0 ≤ x4.toInt) (hL : x4.toInt + 6 ≤ L) (h2 : L < 2147483648) (hR : zRl x_reader_count x_reader_units x_page_count x_page_units m_size m_outs m_text m_out m_rows) : ∃ y : zLT, f_L_law_c1 L xs x_reader_count x_reader_at x_reader_end x_reader_counting x_reader_power x_reader_units x_reader_numerator_used x_reader_numerator_limbs x_reader_denominator_used x_reader_denominator_limbs x_page_count x_page_units x_writer_decimal_count x_writer_decimal_point x_writer_decimal_digits x_writer_decimal_rest_used x_writer_decimal_rest_limbs x_writer_decimal_scale_used x_writer_decimal_scale_limbs x_writer_decimal_below_used x_writer_decimal_below_limbs x_writer_decimal_above_used x_writer_decimal_above_limbs x_writer_decimal_sum_used x_writer_decimal_sum_limbs x_writer_natural_used x_writer_natural_limbs m_thrown m_size m_outs m_count m_point m_text m_out m_rows m_digits q x4 = some (Sum.inl y) ∧ zRelT y ∧ zx4 y = x4 + 6 := by
  obtain ⟨hT, hM, hS⟩ := hR
  obtain ⟨d, ⟨y1, y2, y3, y4, y5, y6, y7, y8⟩, r1, w1, w2, w4, w5⟩ := same_read x_reader_at x_reader_end x_reader_counting x_reader_power m_thrown m_outs m_count m_point hT (nu := x_reader_numerator_used) (du := x_reader_denominator_used) (nl := x_reader_numerator_limbs) (dl := x_reader_denominator_limbs) hM
  unfold f_L_law_c1
  rw [w1, Option.bind_some]
  dsimp only
  rw [w2, Option.bind_some]
  dsimp only
  rw [if_pos rfl]
  exact ⟨_, rfl, ⟨w5, w4, hS⟩, rfl⟩
set_option maxRecDepth 100000 in
theorem lp_c2 (L : Nat) (xs : Nat → Int32) (x_reader_count : Int32) (x_reader_at : Int32) (x_reader_end : Int32) (x_reader_counting : Int32) (x_reader_power : Int32) (x_reader_units : Nat → Int32) (x_reader_numerator_used : Int32) (x_reader_numerator_limbs : Nat → Int32) (x_reader_denominator_used : Int32) (x_reader_denominator_limbs : Nat → Int32) (x_page_count : Int32) (x_page_units : Nat → Int32) (x_writer_decimal_count : Int32) (x_writer_decimal_point : Int32) (x_writer_decimal_digits : Nat → Int32) (x_writer_decimal_rest_used : Int32) (x_writer_decimal_rest_limbs : Nat → Int32) (x_writer_decimal_scale_used : Int32) (x_writer_decimal_scale_limbs : Nat → Int32) (x_writer_decimal_below_used : Int32) (x_writer_decimal_below_limbs : Nat → Int32) (x_writer_decimal_above_used : Int32) (x_writer_decimal_above_limbs : Nat → Int32) (x_writer_decimal_sum_used : Int32) (x_writer_decimal_sum_limbs : Nat → Int32) (x_writer_natural_used : Int32) (x_writer_natural_limbs : Nat → Int32) (m_thrown : Int32) (m_size : Int32) (m_outs : Int32) (m_count : Int32) (m_point : Int32) (m_text : Nat → Int32) (m_out : Nat → Int32) (m_rows : Nat → Int32) (m_digits : Nat → Int32) (q : Nat → Int64) (x4 : Int32) (h0 : 0 ≤ x4.toInt) (hL : x4.toInt + 6 ≤ L) (h2 : L < 2147483648) (hR : zRl x_reader_count x_reader_units x_page_count x_page_units m_size m_outs m_text m_out m_rows) : ∃ y : zLT, f_L_law_c2 L xs x_reader_count x_reader_at x_reader_end x_reader_counting x_reader_power x_reader_units x_reader_numerator_used x_reader_numerator_limbs x_reader_denominator_used x_reader_denominator_limbs x_page_count x_page_units x_writer_decimal_count x_writer_decimal_point x_writer_decimal_digits x_writer_decimal_rest_used x_writer_decimal_rest_limbs x_writer_decimal_scale_used x_writer_decimal_scale_limbs x_writer_decimal_below_used x_writer_decimal_below_limbs x_writer_decimal_above_used x_writer_decimal_above_limbs x_writer_decimal_sum_used x_writer_decimal_sum_limbs x_writer_natural_used x_writer_natural_limbs m_thrown m_size m_outs m_count m_point m_text m_out m_rows m_digits q x4 = some (Sum.inl y) ∧ zRelT y ∧ zx4 y = x4 + 6 := by
  obtain ⟨hT, hM, hS⟩ := hR
  have z1 := zi 1 ⟨by decide, by decide⟩ h0 hL h2
  have z2 := zi 2 ⟨by decide, by decide⟩ h0 hL h2
  have z3 := zi 3 ⟨by decide, by decide⟩ h0 hL h2
  have z4 := zi 4 ⟨by decide, by decide⟩ h0 hL h2
  have z5 := zi 5 ⟨by decide, by decide⟩ h0 hL h2
  obtain ⟨k, q1, d, r1, w1, w2, w3, w4⟩ := ro_reckon m_thrown m_size m_outs m_count m_point hM q ((jlshl ((xs (x4 + 1).toNatClampNeg)).toInt64 32) ||| (((xs (x4 + 2).toNatClampNeg)).toInt64 &&& 4294967295)) ((jlshl ((xs (x4 + 3).toNatClampNeg)).toInt64 32) ||| (((xs (x4 + 4).toNatClampNeg)).toInt64 &&& 4294967295)) (xs (x4 + 5).toNatClampNeg)
  unfold f_L_law_c2
  rw [if_pos z1, if_pos z2, if_pos z3, if_pos z4, if_pos z5, w1, Option.bind_some]
  dsimp only
  rw [if_pos z1, if_pos z2, if_pos z3, if_pos z4, if_pos z5, w2, Option.bind_some]
  dsimp only
  rw [show f_M_thrown k m_size m_outs m_count m_point = some k from rfl, Option.bind_some, if_pos rfl]
  by_cases hk : k = 0
  · rw [if_pos hk, if_pos (w3 hk)]
    exact ⟨_, rfl, ⟨hT, w4, hS⟩, rfl⟩
  · rw [if_neg hk]
    exact ⟨_, rfl, ⟨hT, w4, hS⟩, rfl⟩
set_option maxRecDepth 100000 in
theorem lp_c3 (L : Nat) (xs : Nat → Int32) (x_reader_count : Int32) (x_reader_at : Int32) (x_reader_end : Int32) (x_reader_counting : Int32) (x_reader_power : Int32) (x_reader_units : Nat → Int32) (x_reader_numerator_used : Int32) (x_reader_numerator_limbs : Nat → Int32) (x_reader_denominator_used : Int32) (x_reader_denominator_limbs : Nat → Int32) (x_page_count : Int32) (x_page_units : Nat → Int32) (x_writer_decimal_count : Int32) (x_writer_decimal_point : Int32) (x_writer_decimal_digits : Nat → Int32) (x_writer_decimal_rest_used : Int32) (x_writer_decimal_rest_limbs : Nat → Int32) (x_writer_decimal_scale_used : Int32) (x_writer_decimal_scale_limbs : Nat → Int32) (x_writer_decimal_below_used : Int32) (x_writer_decimal_below_limbs : Nat → Int32) (x_writer_decimal_above_used : Int32) (x_writer_decimal_above_limbs : Nat → Int32) (x_writer_decimal_sum_used : Int32) (x_writer_decimal_sum_limbs : Nat → Int32) (x_writer_natural_used : Int32) (x_writer_natural_limbs : Nat → Int32) (m_thrown : Int32) (m_size : Int32) (m_outs : Int32) (m_count : Int32) (m_point : Int32) (m_text : Nat → Int32) (m_out : Nat → Int32) (m_rows : Nat → Int32) (m_digits : Nat → Int32) (q : Nat → Int64) (x4 : Int32) (h0 : 0 ≤ x4.toInt) (hL : x4.toInt + 6 ≤ L) (h2 : L < 2147483648) (hR : zRl x_reader_count x_reader_units x_page_count x_page_units m_size m_outs m_text m_out m_rows) : ∃ y : zLT, f_L_law_c3 L xs x_reader_count x_reader_at x_reader_end x_reader_counting x_reader_power x_reader_units x_reader_numerator_used x_reader_numerator_limbs x_reader_denominator_used x_reader_denominator_limbs x_page_count x_page_units x_writer_decimal_count x_writer_decimal_point x_writer_decimal_digits x_writer_decimal_rest_used x_writer_decimal_rest_limbs x_writer_decimal_scale_used x_writer_decimal_scale_limbs x_writer_decimal_below_used x_writer_decimal_below_limbs x_writer_decimal_above_used x_writer_decimal_above_limbs x_writer_decimal_sum_used x_writer_decimal_sum_limbs x_writer_natural_used x_writer_natural_limbs m_thrown m_size m_outs m_count m_point m_text m_out m_rows m_digits q x4 = some (Sum.inl y) ∧ zRelT y ∧ zx4 y = x4 + 6 := by
  obtain ⟨hT, hM, hS⟩ := hR
  have z1 := zi 1 ⟨by decide, by decide⟩ h0 hL h2
  have z2 := zi 2 ⟨by decide, by decide⟩ h0 hL h2
  have z3 := zi 3 ⟨by decide, by decide⟩ h0 hL h2
  obtain ⟨k, q1, d, r1, w1, w2, w3, w4⟩ := ro_turn m_thrown m_size m_outs m_count m_point hM q ((jlshl ((xs (x4 + 1).toNatClampNeg)).toInt64 32) ||| (((xs (x4 + 2).toNatClampNeg)).toInt64 &&& 4294967295)) (xs (x4 + 3).toNatClampNeg)
  unfold f_L_law_c3
  rw [if_pos z1, if_pos z2, if_pos z3, w1, Option.bind_some]
  dsimp only
  rw [if_pos z1, if_pos z2, if_pos z3, w2, Option.bind_some]
  dsimp only
  rw [show f_M_thrown k m_size m_outs m_count m_point = some k from rfl, Option.bind_some, if_pos rfl]
  by_cases hk : k = 0
  · rw [if_pos hk, if_pos (w3 hk)]
    exact ⟨_, rfl, ⟨hT, w4, hS⟩, rfl⟩
  · rw [if_neg hk]
    exact ⟨_, rfl, ⟨hT, w4, hS⟩, rfl⟩
set_option maxRecDepth 100000 in
theorem lp_c4 (L : Nat) (xs : Nat → Int32) (x_reader_count : Int32) (x_reader_at : Int32) (x_reader_end : Int32) (x_reader_counting : Int32) (x_reader_power : Int32) (x_reader_units : Nat → Int32) (x_reader_numerator_used : Int32) (x_reader_numerator_limbs : Nat → Int32) (x_reader_denominator_used : Int32) (x_reader_denominator_limbs : Nat → Int32) (x_page_count : Int32) (x_page_units : Nat → Int32) (x_writer_decimal_count : Int32) (x_writer_decimal_point : Int32) (x_writer_decimal_digits : Nat → Int32) (x_writer_decimal_rest_used : Int32) (x_writer_decimal_rest_limbs : Nat → Int32) (x_writer_decimal_scale_used : Int32) (x_writer_decimal_scale_limbs : Nat → Int32) (x_writer_decimal_below_used : Int32) (x_writer_decimal_below_limbs : Nat → Int32) (x_writer_decimal_above_used : Int32) (x_writer_decimal_above_limbs : Nat → Int32) (x_writer_decimal_sum_used : Int32) (x_writer_decimal_sum_limbs : Nat → Int32) (x_writer_natural_used : Int32) (x_writer_natural_limbs : Nat → Int32) (m_thrown : Int32) (m_size : Int32) (m_outs : Int32) (m_count : Int32) (m_point : Int32) (m_text : Nat → Int32) (m_out : Nat → Int32) (m_rows : Nat → Int32) (m_digits : Nat → Int32) (q : Nat → Int64) (x4 : Int32) (h0 : 0 ≤ x4.toInt) (hL : x4.toInt + 6 ≤ L) (h2 : L < 2147483648) (hR : zRl x_reader_count x_reader_units x_page_count x_page_units m_size m_outs m_text m_out m_rows) : ∃ y : zLT, f_L_law_c4 L xs x_reader_count x_reader_at x_reader_end x_reader_counting x_reader_power x_reader_units x_reader_numerator_used x_reader_numerator_limbs x_reader_denominator_used x_reader_denominator_limbs x_page_count x_page_units x_writer_decimal_count x_writer_decimal_point x_writer_decimal_digits x_writer_decimal_rest_used x_writer_decimal_rest_limbs x_writer_decimal_scale_used x_writer_decimal_scale_limbs x_writer_decimal_below_used x_writer_decimal_below_limbs x_writer_decimal_above_used x_writer_decimal_above_limbs x_writer_decimal_sum_used x_writer_decimal_sum_limbs x_writer_natural_used x_writer_natural_limbs m_thrown m_size m_outs m_count m_point m_text m_out m_rows m_digits q x4 = some (Sum.inl y) ∧ zRelT y ∧ zx4 y = x4 + 6 := by
  obtain ⟨hT, hM, hS⟩ := hR
  have z1 := zi 1 ⟨by decide, by decide⟩ h0 hL h2
  have z2 := zi 2 ⟨by decide, by decide⟩ h0 hL h2
  have z3 := zi 3 ⟨by decide, by decide⟩ h0 hL h2
  have z4 := zi 4 ⟨by decide, by decide⟩ h0 hL h2
  obtain ⟨d, w1, w2⟩ := same_compare m_thrown m_size m_outs m_count m_point ((jlshl ((xs (x4 + 1).toNatClampNeg)).toInt64 32) ||| (((xs (x4 + 2).toNatClampNeg)).toInt64 &&& 4294967295)) ((jlshl ((xs (x4 + 3).toNatClampNeg)).toInt64 32) ||| (((xs (x4 + 4).toNatClampNeg)).toInt64 &&& 4294967295))
  unfold f_L_law_c4
  rw [if_pos z1, if_pos z2, if_pos z3, if_pos z4, w1, Option.bind_some]
  dsimp only
  rw [if_pos z1, if_pos z2, if_pos z3, if_pos z4, w2, Option.bind_some]
  dsimp only
  rw [if_pos rfl]
  exact ⟨_, rfl, ⟨hT, hM, hS⟩, rfl⟩
set_option maxRecDepth 100000 in
theorem lp_c5 (L : Nat) (xs : Nat → Int32) (x_reader_count : Int32) (x_reader_at : Int32) (x_reader_end : Int32) (x_reader_counting : Int32) (x_reader_power : Int32) (x_reader_units : Nat → Int32) (x_reader_numerator_used : Int32) (x_reader_numerator_limbs : Nat → Int32) (x_reader_denominator_used : Int32) (x_reader_denominator_limbs : Nat → Int32) (x_page_count : Int32) (x_page_units : Nat → Int32) (x_writer_decimal_count : Int32) (x_writer_decimal_point : Int32) (x_writer_decimal_digits : Nat → Int32) (x_writer_decimal_rest_used : Int32) (x_writer_decimal_rest_limbs : Nat → Int32) (x_writer_decimal_scale_used : Int32) (x_writer_decimal_scale_limbs : Nat → Int32) (x_writer_decimal_below_used : Int32) (x_writer_decimal_below_limbs : Nat → Int32) (x_writer_decimal_above_used : Int32) (x_writer_decimal_above_limbs : Nat → Int32) (x_writer_decimal_sum_used : Int32) (x_writer_decimal_sum_limbs : Nat → Int32) (x_writer_natural_used : Int32) (x_writer_natural_limbs : Nat → Int32) (m_thrown : Int32) (m_size : Int32) (m_outs : Int32) (m_count : Int32) (m_point : Int32) (m_text : Nat → Int32) (m_out : Nat → Int32) (m_rows : Nat → Int32) (m_digits : Nat → Int32) (q : Nat → Int64) (x4 : Int32) (h0 : 0 ≤ x4.toInt) (hL : x4.toInt + 6 ≤ L) (h2 : L < 2147483648) (hR : zRl x_reader_count x_reader_units x_page_count x_page_units m_size m_outs m_text m_out m_rows) : ∃ y : zLT, f_L_law_c5 L xs x_reader_count x_reader_at x_reader_end x_reader_counting x_reader_power x_reader_units x_reader_numerator_used x_reader_numerator_limbs x_reader_denominator_used x_reader_denominator_limbs x_page_count x_page_units x_writer_decimal_count x_writer_decimal_point x_writer_decimal_digits x_writer_decimal_rest_used x_writer_decimal_rest_limbs x_writer_decimal_scale_used x_writer_decimal_scale_limbs x_writer_decimal_below_used x_writer_decimal_below_limbs x_writer_decimal_above_used x_writer_decimal_above_limbs x_writer_decimal_sum_used x_writer_decimal_sum_limbs x_writer_natural_used x_writer_natural_limbs m_thrown m_size m_outs m_count m_point m_text m_out m_rows m_digits q x4 = some (Sum.inl y) ∧ zRelT y ∧ zx4 y = x4 + 6 := by
  obtain ⟨hT, hM, hS⟩ := hR
  have z1 := zi 1 ⟨by decide, by decide⟩ h0 hL h2
  have z2 := zi 2 ⟨by decide, by decide⟩ h0 hL h2
  have z3 := zi 3 ⟨by decide, by decide⟩ h0 hL h2
  obtain ⟨k, q1, d, w1, w2, w3⟩ := ro_whole m_thrown m_size m_outs m_count m_point q ((jlshl ((xs (x4 + 1).toNatClampNeg)).toInt64 32) ||| (((xs (x4 + 2).toNatClampNeg)).toInt64 &&& 4294967295)) (xs (x4 + 3).toNatClampNeg)
  unfold f_L_law_c5
  rw [if_pos z1, if_pos z2, if_pos z3, w1, Option.bind_some]
  dsimp only
  rw [if_pos z1, if_pos z2, if_pos z3, w2, Option.bind_some]
  dsimp only
  rw [show f_M_thrown k m_size m_outs m_count m_point = some k from rfl, Option.bind_some, if_pos rfl]
  by_cases hk : k = 0
  · rw [if_pos hk, if_pos (w3 hk)]
    exact ⟨_, rfl, ⟨hT, hM, hS⟩, rfl⟩
  · rw [if_neg hk]
    exact ⟨_, rfl, ⟨hT, hM, hS⟩, rfl⟩
set_option maxRecDepth 100000 in
theorem lp_c6 (L : Nat) (xs : Nat → Int32) (x_reader_count : Int32) (x_reader_at : Int32) (x_reader_end : Int32) (x_reader_counting : Int32) (x_reader_power : Int32) (x_reader_units : Nat → Int32) (x_reader_numerator_used : Int32) (x_reader_numerator_limbs : Nat → Int32) (x_reader_denominator_used : Int32) (x_reader_denominator_limbs : Nat → Int32) (x_page_count : Int32) (x_page_units : Nat → Int32) (x_writer_decimal_count : Int32) (x_writer_decimal_point : Int32) (x_writer_decimal_digits : Nat → Int32) (x_writer_decimal_rest_used : Int32) (x_writer_decimal_rest_limbs : Nat → Int32) (x_writer_decimal_scale_used : Int32) (x_writer_decimal_scale_limbs : Nat → Int32) (x_writer_decimal_below_used : Int32) (x_writer_decimal_below_limbs : Nat → Int32) (x_writer_decimal_above_used : Int32) (x_writer_decimal_above_limbs : Nat → Int32) (x_writer_decimal_sum_used : Int32) (x_writer_decimal_sum_limbs : Nat → Int32) (x_writer_natural_used : Int32) (x_writer_natural_limbs : Nat → Int32) (m_thrown : Int32) (m_size : Int32) (m_outs : Int32) (m_count : Int32) (m_point : Int32) (m_text : Nat → Int32) (m_out : Nat → Int32) (m_rows : Nat → Int32) (m_digits : Nat → Int32) (q : Nat → Int64) (x4 : Int32) (h0 : 0 ≤ x4.toInt) (hL : x4.toInt + 6 ≤ L) (h2 : L < 2147483648) (hR : zRl x_reader_count x_reader_units x_page_count x_page_units m_size m_outs m_text m_out m_rows) : ∃ y : zLT, f_L_law_c6 L xs x_reader_count x_reader_at x_reader_end x_reader_counting x_reader_power x_reader_units x_reader_numerator_used x_reader_numerator_limbs x_reader_denominator_used x_reader_denominator_limbs x_page_count x_page_units x_writer_decimal_count x_writer_decimal_point x_writer_decimal_digits x_writer_decimal_rest_used x_writer_decimal_rest_limbs x_writer_decimal_scale_used x_writer_decimal_scale_limbs x_writer_decimal_below_used x_writer_decimal_below_limbs x_writer_decimal_above_used x_writer_decimal_above_limbs x_writer_decimal_sum_used x_writer_decimal_sum_limbs x_writer_natural_used x_writer_natural_limbs m_thrown m_size m_outs m_count m_point m_text m_out m_rows m_digits q x4 = some (Sum.inl y) ∧ zRelT y ∧ zx4 y = x4 + 6 := by
  obtain ⟨hT, hM, hS⟩ := hR
  have z1 := zi 1 ⟨by decide, by decide⟩ h0 hL h2
  have z2 := zi 2 ⟨by decide, by decide⟩ h0 hL h2
  obtain ⟨d, r1, w1, w2, w4⟩ := same_of m_thrown m_size m_outs m_count m_point hM ((jlshl ((xs (x4 + 1).toNatClampNeg)).toInt64 32) ||| (((xs (x4 + 2).toNatClampNeg)).toInt64 &&& 4294967295))
  unfold f_L_law_c6
  rw [if_pos z1, if_pos z2, w1, Option.bind_some]
  dsimp only
  rw [if_pos z1, if_pos z2, w2, Option.bind_some]
  dsimp only
  rw [if_pos rfl]
  exact ⟨_, rfl, ⟨hT, w4, hS⟩, rfl⟩
set_option maxRecDepth 100000 in
theorem lp_c7 (L : Nat) (xs : Nat → Int32) (x_reader_count : Int32) (x_reader_at : Int32) (x_reader_end : Int32) (x_reader_counting : Int32) (x_reader_power : Int32) (x_reader_units : Nat → Int32) (x_reader_numerator_used : Int32) (x_reader_numerator_limbs : Nat → Int32) (x_reader_denominator_used : Int32) (x_reader_denominator_limbs : Nat → Int32) (x_page_count : Int32) (x_page_units : Nat → Int32) (x_writer_decimal_count : Int32) (x_writer_decimal_point : Int32) (x_writer_decimal_digits : Nat → Int32) (x_writer_decimal_rest_used : Int32) (x_writer_decimal_rest_limbs : Nat → Int32) (x_writer_decimal_scale_used : Int32) (x_writer_decimal_scale_limbs : Nat → Int32) (x_writer_decimal_below_used : Int32) (x_writer_decimal_below_limbs : Nat → Int32) (x_writer_decimal_above_used : Int32) (x_writer_decimal_above_limbs : Nat → Int32) (x_writer_decimal_sum_used : Int32) (x_writer_decimal_sum_limbs : Nat → Int32) (x_writer_natural_used : Int32) (x_writer_natural_limbs : Nat → Int32) (m_thrown : Int32) (m_size : Int32) (m_outs : Int32) (m_count : Int32) (m_point : Int32) (m_text : Nat → Int32) (m_out : Nat → Int32) (m_rows : Nat → Int32) (m_digits : Nat → Int32) (q : Nat → Int64) (x4 : Int32) (h0 : 0 ≤ x4.toInt) (hL : x4.toInt + 6 ≤ L) (h2 : L < 2147483648) (hR : zRl x_reader_count x_reader_units x_page_count x_page_units m_size m_outs m_text m_out m_rows) : ∃ y : zLT, f_L_law_c7 L xs x_reader_count x_reader_at x_reader_end x_reader_counting x_reader_power x_reader_units x_reader_numerator_used x_reader_numerator_limbs x_reader_denominator_used x_reader_denominator_limbs x_page_count x_page_units x_writer_decimal_count x_writer_decimal_point x_writer_decimal_digits x_writer_decimal_rest_used x_writer_decimal_rest_limbs x_writer_decimal_scale_used x_writer_decimal_scale_limbs x_writer_decimal_below_used x_writer_decimal_below_limbs x_writer_decimal_above_used x_writer_decimal_above_limbs x_writer_decimal_sum_used x_writer_decimal_sum_limbs x_writer_natural_used x_writer_natural_limbs m_thrown m_size m_outs m_count m_point m_text m_out m_rows m_digits q x4 = some (Sum.inl y) ∧ zRelT y ∧ zx4 y = x4 + 6 := by
  obtain ⟨hT, hM, hS⟩ := hR
  have z1 := zi 1 ⟨by decide, by decide⟩ h0 hL h2
  have z2 := zi 2 ⟨by decide, by decide⟩ h0 hL h2
  obtain ⟨d, pc1, pu1, ⟨y1, y2, y3, y4, y5, y6, y7, y8, y9, y10, y11, y12, y13⟩, o1, cc1, p1, out1, r1, dgm1, w1, w2, w4, w5⟩ := same_write m_thrown m_size m_outs m_count m_point (out := m_out) (dgm := m_digits) hM (pc := x_page_count) (pu := x_page_units) (cn := x_writer_decimal_count) (pt := x_writer_decimal_point) (dg := x_writer_decimal_digits) (ru := x_writer_decimal_rest_used) (rl := x_writer_decimal_rest_limbs) (su := x_writer_decimal_scale_used) (sl := x_writer_decimal_scale_limbs) (bu := x_writer_decimal_below_used) (bl := x_writer_decimal_below_limbs) (au := x_writer_decimal_above_used) (al := x_writer_decimal_above_limbs) (uu := x_writer_decimal_sum_used) (ul := x_writer_decimal_sum_limbs) ((jlshl ((xs (x4 + 1).toNatClampNeg)).toInt64 32) ||| (((xs (x4 + 2).toNatClampNeg)).toInt64 &&& 4294967295))
  unfold f_L_law_c7
  rw [if_pos z1, if_pos z2, w1, Option.bind_some]
  dsimp only
  rw [if_pos z1, if_pos z2, w2, Option.bind_some]
  dsimp only
  rw [if_pos rfl]
  exact ⟨_, rfl, ⟨hT, w4, w5⟩, rfl⟩
set_option maxRecDepth 100000 in
theorem lp_c8 (L : Nat) (xs : Nat → Int32) (x_reader_count : Int32) (x_reader_at : Int32) (x_reader_end : Int32) (x_reader_counting : Int32) (x_reader_power : Int32) (x_reader_units : Nat → Int32) (x_reader_numerator_used : Int32) (x_reader_numerator_limbs : Nat → Int32) (x_reader_denominator_used : Int32) (x_reader_denominator_limbs : Nat → Int32) (x_page_count : Int32) (x_page_units : Nat → Int32) (x_writer_decimal_count : Int32) (x_writer_decimal_point : Int32) (x_writer_decimal_digits : Nat → Int32) (x_writer_decimal_rest_used : Int32) (x_writer_decimal_rest_limbs : Nat → Int32) (x_writer_decimal_scale_used : Int32) (x_writer_decimal_scale_limbs : Nat → Int32) (x_writer_decimal_below_used : Int32) (x_writer_decimal_below_limbs : Nat → Int32) (x_writer_decimal_above_used : Int32) (x_writer_decimal_above_limbs : Nat → Int32) (x_writer_decimal_sum_used : Int32) (x_writer_decimal_sum_limbs : Nat → Int32) (x_writer_natural_used : Int32) (x_writer_natural_limbs : Nat → Int32) (m_thrown : Int32) (m_size : Int32) (m_outs : Int32) (m_count : Int32) (m_point : Int32) (m_text : Nat → Int32) (m_out : Nat → Int32) (m_rows : Nat → Int32) (m_digits : Nat → Int32) (q : Nat → Int64) (x4 : Int32) (h0 : 0 ≤ x4.toInt) (hL : x4.toInt + 6 ≤ L) (h2 : L < 2147483648) (hR : zRl x_reader_count x_reader_units x_page_count x_page_units m_size m_outs m_text m_out m_rows) : ∃ y : zLT, f_L_law_c8 L xs x_reader_count x_reader_at x_reader_end x_reader_counting x_reader_power x_reader_units x_reader_numerator_used x_reader_numerator_limbs x_reader_denominator_used x_reader_denominator_limbs x_page_count x_page_units x_writer_decimal_count x_writer_decimal_point x_writer_decimal_digits x_writer_decimal_rest_used x_writer_decimal_rest_limbs x_writer_decimal_scale_used x_writer_decimal_scale_limbs x_writer_decimal_below_used x_writer_decimal_below_limbs x_writer_decimal_above_used x_writer_decimal_above_limbs x_writer_decimal_sum_used x_writer_decimal_sum_limbs x_writer_natural_used x_writer_natural_limbs m_thrown m_size m_outs m_count m_point m_text m_out m_rows m_digits q x4 = some (Sum.inl y) ∧ zRelT y ∧ zx4 y = x4 + 6 := by
  obtain ⟨hT, hM, hS⟩ := hR
  have z1 := zi 1 ⟨by decide, by decide⟩ h0 hL h2
  have z2 := zi 2 ⟨by decide, by decide⟩ h0 hL h2
  have z3 := zi 3 ⟨by decide, by decide⟩ h0 hL h2
  obtain ⟨k, pc1, pu1, nu1, nl1, q1, d, o1, out1, r1, w1, w2, w3, w4, w5⟩ := ro_radix m_thrown m_size m_outs m_count m_point hM (nu := x_writer_natural_used) (nl := x_writer_natural_limbs) hS q ((jlshl ((xs (x4 + 1).toNatClampNeg)).toInt64 32) ||| (((xs (x4 + 2).toNatClampNeg)).toInt64 &&& 4294967295)) (xs (x4 + 3).toNatClampNeg)
  unfold f_L_law_c8
  rw [if_pos z1, if_pos z2, if_pos z3, w1, Option.bind_some]
  dsimp only
  rw [if_pos z1, if_pos z2, if_pos z3, w2, Option.bind_some]
  dsimp only
  rw [show f_M_thrown k m_size o1 m_count m_point = some k from rfl, Option.bind_some, if_pos rfl]
  by_cases hk : k = 0
  · rw [if_pos hk, if_pos (w3 hk)]
    exact ⟨_, rfl, ⟨hT, w4, w5⟩, rfl⟩
  · rw [if_neg hk]
    exact ⟨_, rfl, ⟨hT, w4, w5⟩, rfl⟩
set_option maxRecDepth 100000 in
theorem lp_c9 (L : Nat) (xs : Nat → Int32) (x_reader_count : Int32) (x_reader_at : Int32) (x_reader_end : Int32) (x_reader_counting : Int32) (x_reader_power : Int32) (x_reader_units : Nat → Int32) (x_reader_numerator_used : Int32) (x_reader_numerator_limbs : Nat → Int32) (x_reader_denominator_used : Int32) (x_reader_denominator_limbs : Nat → Int32) (x_page_count : Int32) (x_page_units : Nat → Int32) (x_writer_decimal_count : Int32) (x_writer_decimal_point : Int32) (x_writer_decimal_digits : Nat → Int32) (x_writer_decimal_rest_used : Int32) (x_writer_decimal_rest_limbs : Nat → Int32) (x_writer_decimal_scale_used : Int32) (x_writer_decimal_scale_limbs : Nat → Int32) (x_writer_decimal_below_used : Int32) (x_writer_decimal_below_limbs : Nat → Int32) (x_writer_decimal_above_used : Int32) (x_writer_decimal_above_limbs : Nat → Int32) (x_writer_decimal_sum_used : Int32) (x_writer_decimal_sum_limbs : Nat → Int32) (x_writer_natural_used : Int32) (x_writer_natural_limbs : Nat → Int32) (m_thrown : Int32) (m_size : Int32) (m_outs : Int32) (m_count : Int32) (m_point : Int32) (m_text : Nat → Int32) (m_out : Nat → Int32) (m_rows : Nat → Int32) (m_digits : Nat → Int32) (q : Nat → Int64) (x4 : Int32) (h0 : 0 ≤ x4.toInt) (hL : x4.toInt + 6 ≤ L) (h2 : L < 2147483648) (hR : zRl x_reader_count x_reader_units x_page_count x_page_units m_size m_outs m_text m_out m_rows) : ∃ y : zLT, f_L_law_c9 L xs x_reader_count x_reader_at x_reader_end x_reader_counting x_reader_power x_reader_units x_reader_numerator_used x_reader_numerator_limbs x_reader_denominator_used x_reader_denominator_limbs x_page_count x_page_units x_writer_decimal_count x_writer_decimal_point x_writer_decimal_digits x_writer_decimal_rest_used x_writer_decimal_rest_limbs x_writer_decimal_scale_used x_writer_decimal_scale_limbs x_writer_decimal_below_used x_writer_decimal_below_limbs x_writer_decimal_above_used x_writer_decimal_above_limbs x_writer_decimal_sum_used x_writer_decimal_sum_limbs x_writer_natural_used x_writer_natural_limbs m_thrown m_size m_outs m_count m_point m_text m_out m_rows m_digits q x4 = some (Sum.inl y) ∧ zRelT y ∧ zx4 y = x4 + 6 := by
  obtain ⟨hT, hM, hS⟩ := hR
  have z1 := zi 1 ⟨by decide, by decide⟩ h0 hL h2
  have z2 := zi 2 ⟨by decide, by decide⟩ h0 hL h2
  have z3 := zi 3 ⟨by decide, by decide⟩ h0 hL h2
  have z4 := zi 4 ⟨by decide, by decide⟩ h0 hL h2
  obtain ⟨k, pc1, pu1, cn1, pt1, dg1, ru1, rl1, su1, sl1, bu1, bl1, au1, al1, uu1, ul1, q1, d, o1, cc1, p1, out1, r1, dgm1, w1, w2, w3, w4, w5⟩ := ro_form m_thrown m_size m_outs m_count m_point (dgm := m_digits) hM hS (cn := x_writer_decimal_count) (pt := x_writer_decimal_point) (dg := x_writer_decimal_digits) (ru := x_writer_decimal_rest_used) (rl := x_writer_decimal_rest_limbs) (su := x_writer_decimal_scale_used) (sl := x_writer_decimal_scale_limbs) (bu := x_writer_decimal_below_used) (bl := x_writer_decimal_below_limbs) (au := x_writer_decimal_above_used) (al := x_writer_decimal_above_limbs) (uu := x_writer_decimal_sum_used) (ul := x_writer_decimal_sum_limbs) q ((jlshl ((xs (x4 + 1).toNatClampNeg)).toInt64 32) ||| (((xs (x4 + 2).toNatClampNeg)).toInt64 &&& 4294967295)) (xs (x4 + 3).toNatClampNeg) (xs (x4 + 4).toNatClampNeg)
  unfold f_L_law_c9
  rw [if_pos z1, if_pos z2, if_pos z3, if_pos z4, w1, Option.bind_some]
  dsimp only
  rw [if_pos z1, if_pos z2, if_pos z3, if_pos z4, w2, Option.bind_some]
  dsimp only
  rw [show f_M_thrown k m_size o1 cc1 p1 = some k from rfl, Option.bind_some, if_pos rfl]
  by_cases hk : k = 0
  · rw [if_pos hk, if_pos (w3 hk)]
    exact ⟨_, rfl, ⟨hT, w4, w5⟩, rfl⟩
  · rw [if_neg hk]
    exact ⟨_, rfl, ⟨hT, w4, w5⟩, rfl⟩
set_option maxRecDepth 100000 in
theorem lp_c10 (L : Nat) (xs : Nat → Int32) (x_reader_count : Int32) (x_reader_at : Int32) (x_reader_end : Int32) (x_reader_counting : Int32) (x_reader_power : Int32) (x_reader_units : Nat → Int32) (x_reader_numerator_used : Int32) (x_reader_numerator_limbs : Nat → Int32) (x_reader_denominator_used : Int32) (x_reader_denominator_limbs : Nat → Int32) (x_page_count : Int32) (x_page_units : Nat → Int32) (x_writer_decimal_count : Int32) (x_writer_decimal_point : Int32) (x_writer_decimal_digits : Nat → Int32) (x_writer_decimal_rest_used : Int32) (x_writer_decimal_rest_limbs : Nat → Int32) (x_writer_decimal_scale_used : Int32) (x_writer_decimal_scale_limbs : Nat → Int32) (x_writer_decimal_below_used : Int32) (x_writer_decimal_below_limbs : Nat → Int32) (x_writer_decimal_above_used : Int32) (x_writer_decimal_above_limbs : Nat → Int32) (x_writer_decimal_sum_used : Int32) (x_writer_decimal_sum_limbs : Nat → Int32) (x_writer_natural_used : Int32) (x_writer_natural_limbs : Nat → Int32) (m_thrown : Int32) (m_size : Int32) (m_outs : Int32) (m_count : Int32) (m_point : Int32) (m_text : Nat → Int32) (m_out : Nat → Int32) (m_rows : Nat → Int32) (m_digits : Nat → Int32) (q : Nat → Int64) (x4 : Int32) (h0 : 0 ≤ x4.toInt) (hL : x4.toInt + 6 ≤ L) (h2 : L < 2147483648) (hR : zRl x_reader_count x_reader_units x_page_count x_page_units m_size m_outs m_text m_out m_rows) : ∃ y : zLT, f_L_law_c10 L xs x_reader_count x_reader_at x_reader_end x_reader_counting x_reader_power x_reader_units x_reader_numerator_used x_reader_numerator_limbs x_reader_denominator_used x_reader_denominator_limbs x_page_count x_page_units x_writer_decimal_count x_writer_decimal_point x_writer_decimal_digits x_writer_decimal_rest_used x_writer_decimal_rest_limbs x_writer_decimal_scale_used x_writer_decimal_scale_limbs x_writer_decimal_below_used x_writer_decimal_below_limbs x_writer_decimal_above_used x_writer_decimal_above_limbs x_writer_decimal_sum_used x_writer_decimal_sum_limbs x_writer_natural_used x_writer_natural_limbs m_thrown m_size m_outs m_count m_point m_text m_out m_rows m_digits q x4 = some (Sum.inl y) ∧ zRelT y ∧ zx4 y = x4 + 6 := by
  obtain ⟨hT, hM, hS⟩ := hR
  have z1 := zi 1 ⟨by decide, by decide⟩ h0 hL h2
  obtain ⟨k, q1, d, w1, w2, w3⟩ := ro_unit m_thrown m_size m_count m_point hS q (xs (x4 + 1).toNatClampNeg)
  unfold f_L_law_c10
  rw [if_pos z1, w1, Option.bind_some]
  dsimp only
  rw [if_pos z1, w2, Option.bind_some]
  dsimp only
  rw [show f_M_thrown k m_size m_outs m_count m_point = some k from rfl, Option.bind_some, if_pos rfl]
  by_cases hk : k = 0
  · rw [if_pos hk, if_pos (w3 hk)]
    exact ⟨_, rfl, ⟨hT, hM, hS⟩, rfl⟩
  · rw [if_neg hk]
    exact ⟨_, rfl, ⟨hT, hM, hS⟩, rfl⟩
set_option maxRecDepth 100000 in
theorem law_pure (L : Nat) (xs : Nat → Int32) (x_reader_count : Int32) (x_reader_at : Int32) (x_reader_end : Int32) (x_reader_counting : Int32) (x_reader_power : Int32) (x_reader_units : Nat → Int32) (x_reader_numerator_used : Int32) (x_reader_numerator_limbs : Nat → Int32) (x_reader_denominator_used : Int32) (x_reader_denominator_limbs : Nat → Int32) (x_page_count : Int32) (x_page_units : Nat → Int32) (x_writer_decimal_count : Int32) (x_writer_decimal_point : Int32) (x_writer_decimal_digits : Nat → Int32) (x_writer_decimal_rest_used : Int32) (x_writer_decimal_rest_limbs : Nat → Int32) (x_writer_decimal_scale_used : Int32) (x_writer_decimal_scale_limbs : Nat → Int32) (x_writer_decimal_below_used : Int32) (x_writer_decimal_below_limbs : Nat → Int32) (x_writer_decimal_above_used : Int32) (x_writer_decimal_above_limbs : Nat → Int32) (x_writer_decimal_sum_used : Int32) (x_writer_decimal_sum_limbs : Nat → Int32) (x_writer_natural_used : Int32) (x_writer_natural_limbs : Nat → Int32) (m_thrown : Int32) (m_size : Int32) (m_outs : Int32) (m_count : Int32) (m_point : Int32) (m_text : Nat → Int32) (m_out : Nat → Int32) (m_rows : Nat → Int32) (m_digits : Nat → Int32) (q : Nat → Int64) (x4 : Int32) (h0 : 0 ≤ x4.toInt) (h2 : L < 2147483648) (hR : zRl x_reader_count x_reader_units x_page_count x_page_units m_size m_outs m_text m_out m_rows) : f_L_law_body L xs x_reader_count x_reader_at x_reader_end x_reader_counting x_reader_power x_reader_units x_reader_numerator_used x_reader_numerator_limbs x_reader_denominator_used x_reader_denominator_limbs x_page_count x_page_units x_writer_decimal_count x_writer_decimal_point x_writer_decimal_digits x_writer_decimal_rest_used x_writer_decimal_rest_limbs x_writer_decimal_scale_used x_writer_decimal_scale_limbs x_writer_decimal_below_used x_writer_decimal_below_limbs x_writer_decimal_above_used x_writer_decimal_above_limbs x_writer_decimal_sum_used x_writer_decimal_sum_limbs x_writer_natural_used x_writer_natural_limbs m_thrown m_size m_outs m_count m_point m_text m_out m_rows m_digits q x4 = some (Sum.inr 1) ∨ ∃ y : zLT, f_L_law_body L xs x_reader_count x_reader_at x_reader_end x_reader_counting x_reader_power x_reader_units x_reader_numerator_used x_reader_numerator_limbs x_reader_denominator_used x_reader_denominator_limbs x_page_count x_page_units x_writer_decimal_count x_writer_decimal_point x_writer_decimal_digits x_writer_decimal_rest_used x_writer_decimal_rest_limbs x_writer_decimal_scale_used x_writer_decimal_scale_limbs x_writer_decimal_below_used x_writer_decimal_below_limbs x_writer_decimal_above_used x_writer_decimal_above_limbs x_writer_decimal_sum_used x_writer_decimal_sum_limbs x_writer_natural_used x_writer_natural_limbs m_thrown m_size m_outs m_count m_point m_text m_out m_rows m_digits q x4 = some (Sum.inl y) ∧ zRelT y ∧ zx4 y = x4 + 6 ∧ x4.toInt + 6 ≤ L := by
  have eL : (Int32.ofNat L).toInt = L := nI_toInt h2
  have e6 : (6 : Int32).toInt = 6 := rfl
  have eS : (Int32.ofNat L - 6).toInt = L - 6 := by rw [i_sub (by omega) (by omega)]; omega
  unfold f_L_law_body
  by_cases c : Int32.ofNat L - 6 < x4
  · rw [if_pos c]; exact Or.inl rfl
  · right
    have hL : x4.toInt + 6 ≤ L := by rw [i_lt, eS] at c; omega
    rw [if_neg c, if_pos (show zin x4 L from ⟨h0, by omega⟩)]
    by_cases c0 : (xs x4.toNatClampNeg &&& 15) = 0
    · rw [if_pos c0]
      obtain ⟨y, y1, y2, y3⟩ := lp_c0 L xs x_reader_count x_reader_at x_reader_end x_reader_counting x_reader_power x_reader_units x_reader_numerator_used x_reader_numerator_limbs x_reader_denominator_used x_reader_denominator_limbs x_page_count x_page_units x_writer_decimal_count x_writer_decimal_point x_writer_decimal_digits x_writer_decimal_rest_used x_writer_decimal_rest_limbs x_writer_decimal_scale_used x_writer_decimal_scale_limbs x_writer_decimal_below_used x_writer_decimal_below_limbs x_writer_decimal_above_used x_writer_decimal_above_limbs x_writer_decimal_sum_used x_writer_decimal_sum_limbs x_writer_natural_used x_writer_natural_limbs m_thrown m_size m_outs m_count m_point m_text m_out m_rows m_digits q x4 h0 hL h2 hR
      exact ⟨y, y1, y2, y3, hL⟩
    rw [if_neg c0]
    by_cases c1 : (xs x4.toNatClampNeg &&& 15) = 1
    · rw [if_pos c1]
      obtain ⟨y, y1, y2, y3⟩ := lp_c1 L xs x_reader_count x_reader_at x_reader_end x_reader_counting x_reader_power x_reader_units x_reader_numerator_used x_reader_numerator_limbs x_reader_denominator_used x_reader_denominator_limbs x_page_count x_page_units x_writer_decimal_count x_writer_decimal_point x_writer_decimal_digits x_writer_decimal_rest_used x_writer_decimal_rest_limbs x_writer_decimal_scale_used x_writer_decimal_scale_limbs x_writer_decimal_below_used x_writer_decimal_below_limbs x_writer_decimal_above_used x_writer_decimal_above_limbs x_writer_decimal_sum_used x_writer_decimal_sum_limbs x_writer_natural_used x_writer_natural_limbs m_thrown m_size m_outs m_count m_point m_text m_out m_rows m_digits q x4 h0 hL h2 hR
      exact ⟨y, y1, y2, y3, hL⟩
    rw [if_neg c1]
    by_cases c2 : (xs x4.toNatClampNeg &&& 15) = 2
    · rw [if_pos c2]
      obtain ⟨y, y1, y2, y3⟩ := lp_c2 L xs x_reader_count x_reader_at x_reader_end x_reader_counting x_reader_power x_reader_units x_reader_numerator_used x_reader_numerator_limbs x_reader_denominator_used x_reader_denominator_limbs x_page_count x_page_units x_writer_decimal_count x_writer_decimal_point x_writer_decimal_digits x_writer_decimal_rest_used x_writer_decimal_rest_limbs x_writer_decimal_scale_used x_writer_decimal_scale_limbs x_writer_decimal_below_used x_writer_decimal_below_limbs x_writer_decimal_above_used x_writer_decimal_above_limbs x_writer_decimal_sum_used x_writer_decimal_sum_limbs x_writer_natural_used x_writer_natural_limbs m_thrown m_size m_outs m_count m_point m_text m_out m_rows m_digits q x4 h0 hL h2 hR
      exact ⟨y, y1, y2, y3, hL⟩
    rw [if_neg c2]
    by_cases c3 : (xs x4.toNatClampNeg &&& 15) = 3
    · rw [if_pos c3]
      obtain ⟨y, y1, y2, y3⟩ := lp_c3 L xs x_reader_count x_reader_at x_reader_end x_reader_counting x_reader_power x_reader_units x_reader_numerator_used x_reader_numerator_limbs x_reader_denominator_used x_reader_denominator_limbs x_page_count x_page_units x_writer_decimal_count x_writer_decimal_point x_writer_decimal_digits x_writer_decimal_rest_used x_writer_decimal_rest_limbs x_writer_decimal_scale_used x_writer_decimal_scale_limbs x_writer_decimal_below_used x_writer_decimal_below_limbs x_writer_decimal_above_used x_writer_decimal_above_limbs x_writer_decimal_sum_used x_writer_decimal_sum_limbs x_writer_natural_used x_writer_natural_limbs m_thrown m_size m_outs m_count m_point m_text m_out m_rows m_digits q x4 h0 hL h2 hR
      exact ⟨y, y1, y2, y3, hL⟩
    rw [if_neg c3]
    by_cases c4 : (xs x4.toNatClampNeg &&& 15) = 4
    · rw [if_pos c4]
      obtain ⟨y, y1, y2, y3⟩ := lp_c4 L xs x_reader_count x_reader_at x_reader_end x_reader_counting x_reader_power x_reader_units x_reader_numerator_used x_reader_numerator_limbs x_reader_denominator_used x_reader_denominator_limbs x_page_count x_page_units x_writer_decimal_count x_writer_decimal_point x_writer_decimal_digits x_writer_decimal_rest_used x_writer_decimal_rest_limbs x_writer_decimal_scale_used x_writer_decimal_scale_limbs x_writer_decimal_below_used x_writer_decimal_below_limbs x_writer_decimal_above_used x_writer_decimal_above_limbs x_writer_decimal_sum_used x_writer_decimal_sum_limbs x_writer_natural_used x_writer_natural_limbs m_thrown m_size m_outs m_count m_point m_text m_out m_rows m_digits q x4 h0 hL h2 hR
      exact ⟨y, y1, y2, y3, hL⟩
    rw [if_neg c4]
    by_cases c5 : (xs x4.toNatClampNeg &&& 15) = 5
    · rw [if_pos c5]
      obtain ⟨y, y1, y2, y3⟩ := lp_c5 L xs x_reader_count x_reader_at x_reader_end x_reader_counting x_reader_power x_reader_units x_reader_numerator_used x_reader_numerator_limbs x_reader_denominator_used x_reader_denominator_limbs x_page_count x_page_units x_writer_decimal_count x_writer_decimal_point x_writer_decimal_digits x_writer_decimal_rest_used x_writer_decimal_rest_limbs x_writer_decimal_scale_used x_writer_decimal_scale_limbs x_writer_decimal_below_used x_writer_decimal_below_limbs x_writer_decimal_above_used x_writer_decimal_above_limbs x_writer_decimal_sum_used x_writer_decimal_sum_limbs x_writer_natural_used x_writer_natural_limbs m_thrown m_size m_outs m_count m_point m_text m_out m_rows m_digits q x4 h0 hL h2 hR
      exact ⟨y, y1, y2, y3, hL⟩
    rw [if_neg c5]
    by_cases c6 : (xs x4.toNatClampNeg &&& 15) = 6
    · rw [if_pos c6]
      obtain ⟨y, y1, y2, y3⟩ := lp_c6 L xs x_reader_count x_reader_at x_reader_end x_reader_counting x_reader_power x_reader_units x_reader_numerator_used x_reader_numerator_limbs x_reader_denominator_used x_reader_denominator_limbs x_page_count x_page_units x_writer_decimal_count x_writer_decimal_point x_writer_decimal_digits x_writer_decimal_rest_used x_writer_decimal_rest_limbs x_writer_decimal_scale_used x_writer_decimal_scale_limbs x_writer_decimal_below_used x_writer_decimal_below_limbs x_writer_decimal_above_used x_writer_decimal_above_limbs x_writer_decimal_sum_used x_writer_decimal_sum_limbs x_writer_natural_used x_writer_natural_limbs m_thrown m_size m_outs m_count m_point m_text m_out m_rows m_digits q x4 h0 hL h2 hR
      exact ⟨y, y1, y2, y3, hL⟩
    rw [if_neg c6]
    by_cases c7 : (xs x4.toNatClampNeg &&& 15) = 7
    · rw [if_pos c7]
      obtain ⟨y, y1, y2, y3⟩ := lp_c7 L xs x_reader_count x_reader_at x_reader_end x_reader_counting x_reader_power x_reader_units x_reader_numerator_used x_reader_numerator_limbs x_reader_denominator_used x_reader_denominator_limbs x_page_count x_page_units x_writer_decimal_count x_writer_decimal_point x_writer_decimal_digits x_writer_decimal_rest_used x_writer_decimal_rest_limbs x_writer_decimal_scale_used x_writer_decimal_scale_limbs x_writer_decimal_below_used x_writer_decimal_below_limbs x_writer_decimal_above_used x_writer_decimal_above_limbs x_writer_decimal_sum_used x_writer_decimal_sum_limbs x_writer_natural_used x_writer_natural_limbs m_thrown m_size m_outs m_count m_point m_text m_out m_rows m_digits q x4 h0 hL h2 hR
      exact ⟨y, y1, y2, y3, hL⟩
    rw [if_neg c7]
    by_cases c8 : (xs x4.toNatClampNeg &&& 15) = 8
    · rw [if_pos c8]
      obtain ⟨y, y1, y2, y3⟩ := lp_c8 L xs x_reader_count x_reader_at x_reader_end x_reader_counting x_reader_power x_reader_units x_reader_numerator_used x_reader_numerator_limbs x_reader_denominator_used x_reader_denominator_limbs x_page_count x_page_units x_writer_decimal_count x_writer_decimal_point x_writer_decimal_digits x_writer_decimal_rest_used x_writer_decimal_rest_limbs x_writer_decimal_scale_used x_writer_decimal_scale_limbs x_writer_decimal_below_used x_writer_decimal_below_limbs x_writer_decimal_above_used x_writer_decimal_above_limbs x_writer_decimal_sum_used x_writer_decimal_sum_limbs x_writer_natural_used x_writer_natural_limbs m_thrown m_size m_outs m_count m_point m_text m_out m_rows m_digits q x4 h0 hL h2 hR
      exact ⟨y, y1, y2, y3, hL⟩
    rw [if_neg c8]
    by_cases c9 : (xs x4.toNatClampNeg &&& 15) = 9
    · rw [if_pos c9]
      obtain ⟨y, y1, y2, y3⟩ := lp_c9 L xs x_reader_count x_reader_at x_reader_end x_reader_counting x_reader_power x_reader_units x_reader_numerator_used x_reader_numerator_limbs x_reader_denominator_used x_reader_denominator_limbs x_page_count x_page_units x_writer_decimal_count x_writer_decimal_point x_writer_decimal_digits x_writer_decimal_rest_used x_writer_decimal_rest_limbs x_writer_decimal_scale_used x_writer_decimal_scale_limbs x_writer_decimal_below_used x_writer_decimal_below_limbs x_writer_decimal_above_used x_writer_decimal_above_limbs x_writer_decimal_sum_used x_writer_decimal_sum_limbs x_writer_natural_used x_writer_natural_limbs m_thrown m_size m_outs m_count m_point m_text m_out m_rows m_digits q x4 h0 hL h2 hR
      exact ⟨y, y1, y2, y3, hL⟩
    rw [if_neg c9]
    by_cases c10 : (xs x4.toNatClampNeg &&& 15) = 10
    · rw [if_pos c10]
      obtain ⟨y, y1, y2, y3⟩ := lp_c10 L xs x_reader_count x_reader_at x_reader_end x_reader_counting x_reader_power x_reader_units x_reader_numerator_used x_reader_numerator_limbs x_reader_denominator_used x_reader_denominator_limbs x_page_count x_page_units x_writer_decimal_count x_writer_decimal_point x_writer_decimal_digits x_writer_decimal_rest_used x_writer_decimal_rest_limbs x_writer_decimal_scale_used x_writer_decimal_scale_limbs x_writer_decimal_below_used x_writer_decimal_below_limbs x_writer_decimal_above_used x_writer_decimal_above_limbs x_writer_decimal_sum_used x_writer_decimal_sum_limbs x_writer_natural_used x_writer_natural_limbs m_thrown m_size m_outs m_count m_point m_text m_out m_rows m_digits q x4 h0 hL h2 hR
      exact ⟨y, y1, y2, y3, hL⟩
    rw [if_neg c10]
    exact ⟨_, rfl, hR, rfl, hL⟩
