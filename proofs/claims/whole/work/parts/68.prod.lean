/-! product: the class's parts of 26 bits -/
theorem mul_exp (a b c d L : Nat) : (a * L + b) * (c * L + d) = a * c * (L * L) + a * d * L + b * c * L + b * d := by
  rw [Nat.add_mul, Nat.mul_add, Nat.mul_add, Nat.mul_mul_mul_comm a, Nat.mul_right_comm a L d, ← Nat.mul_assoc b c]
  omega
theorem mul_parts (x y : Nat) : ((x / 67108864) * (y / 67108864) + ((x / 67108864) * (y % 67108864) + (x % 67108864) * (y / 67108864) + (x % 67108864) * (y % 67108864) / 67108864) / 67108864) * 4503599627370496 + (((x / 67108864) * (y % 67108864) + (x % 67108864) * (y / 67108864) + (x % 67108864) * (y % 67108864) / 67108864) % 67108864 * 67108864 + (x % 67108864) * (y % 67108864) % 67108864) = x * y := by
  have hx : x / 67108864 * 67108864 + x % 67108864 = x := Nat.div_add_mod' _ _
  have hy : y / 67108864 * 67108864 + y % 67108864 = y := Nat.div_add_mod' _ _
  have e : x * y = (x / 67108864 * 67108864 + x % 67108864) * (y / 67108864 * 67108864 + y % 67108864) := by rw [hx, hy]
  rw [e]
  generalize x / 67108864 = xh
  generalize x % 67108864 = xl
  generalize y / 67108864 = yh
  generalize y % 67108864 = yl
  clear hx hy e
  rw [mul_exp]
  generalize xh * yh = p1
  generalize xh * yl = p2
  generalize xl * yh = p3
  generalize xl * yl = p4
  omega
theorem mul_lt2 {a b A B : Nat} (ha : a < A) (hb : b < B) : a * b < A * B := Nat.mul_lt_mul_of_lt_of_le ha (Nat.le_of_lt hb) (by omega)
/-- the class's product of two amounts of 53 bits, with a trace of what is cut off -/
theorem A_prod_bits {x y : Int64} {X Y : Nat} (hx : x.toInt = X) (hy : y.toInt = Y) (hX : X < 9007199254740992) (hY : Y < 9007199254740992) :
    ∃ v, f_B_shiftDownWithTrace ((jlshl (((((jlushr x 26) * (y &&& 67108863)) + ((x &&& 67108863) * (jlushr y 26))) + (jlushr ((x &&& 67108863) * (y &&& 67108863)) 26)) &&& 67108863) 26) ||| (((x &&& 67108863) * (y &&& 67108863)) &&& 67108863)) 44 = some v ∧ ((jlshl (((jlushr x 26) * (jlushr y 26)) + (jlushr ((((jlushr x 26) * (y &&& 67108863)) + ((x &&& 67108863) * (jlushr y 26))) + (jlushr ((x &&& 67108863) * (y &&& 67108863)) 26)) 26)) 8) ||| v).toInt = (ztr (X * Y) (2 ^ 44) : Int) := by
  have hp := mul_parts X Y
  have up : ∀ {z : Int64} {Z : Nat}, z.toInt = Z → (jlushr z 26).toInt = ((Z / 67108864 : Nat) : Int) := fun h => B_ushr (o := 26) rfl (by decide) h
  have dn : ∀ {z : Int64} {Z : Nat}, z.toInt = Z → (z &&& 67108863).toInt = ((Z % 67108864 : Nat) : Int) := by
    intro z Z h
    rw [l_and 26 (by decide) rfl, h]
    exact (Int.natCast_emod _ _).symm
  have ml : ∀ {z w : Int64} {Z W : Nat}, z.toInt = Z → w.toInt = W → Z * W < 9223372036854775808 → (z * w).toInt = ((Z * W : Nat) : Int) := by
    intro z w Z W h1 h2 h3
    have e : z.toInt * w.toInt = ((Z * W : Nat) : Int) := by rw [h1, h2]; exact (Int.natCast_mul _ _).symm
    rw [l_mul (by rw [e]; omega) (by rw [e]; omega), e]
  have ad : ∀ {z w : Int64} {Z W : Nat}, z.toInt = Z → w.toInt = W → Z + W < 9223372036854775808 → (z + w).toInt = ((Z + W : Nat) : Int) := by
    intro z w Z W h1 h2 h3
    rw [l_add, h1, h2] <;> (try rw [h1, h2]) <;> omega
  have sl : ∀ {z : Int64} {Z : Nat} {s : Int32} {k : Nat}, z.toInt = Z → s.toInt = k → k < 64 → Z * 2 ^ k < 9223372036854775808 → (jlshl z s).toInt = ((Z * 2 ^ k : Nat) : Int) := by
    intro z Z s k h1 h2 h3 h4
    have e : z.toInt * ((2 ^ k : Nat) : Int) = ((Z * 2 ^ k : Nat) : Int) := by rw [h1]; exact (Int.natCast_mul _ _).symm
    generalize Z * 2 ^ k = u at e h4 ⊢
    exact (l_shl h2 h3 (by rw [e]; omega) (by rw [e]; omega)).trans e
  have xh := up hx
  have yh := up hy
  have xl := dn hx
  have yl := dn hy
  have b1 : X / 67108864 < 134217728 := by omega
  have b2 : Y / 67108864 < 134217728 := by omega
  have b3 : X % 67108864 < 67108864 := by omega
  have b4 : Y % 67108864 < 67108864 := by omega
  generalize jlushr x 26 = ix at *
  generalize jlushr y 26 = iy at *
  generalize x &&& 67108863 = jx at *
  generalize y &&& 67108863 = jy at *
  generalize X / 67108864 = A at *
  generalize Y / 67108864 = B at *
  generalize X % 67108864 = C at *
  generalize Y % 67108864 = D at *
  clear up
  have up : ∀ {z : Int64} {Z : Nat}, z.toInt = Z → (jlushr z 26).toInt = ((Z / 67108864 : Nat) : Int) := fun h => B_ushr (o := 26) rfl (by decide) h
  have m1 := mul_lt2 b1 b2
  have m2 := mul_lt2 b1 b4
  have m3 := mul_lt2 b3 b2
  have m4 := mul_lt2 b3 b4
  have p1 := ml xh yh (by omega)
  have p2 := ml xh yl (by omega)
  have p3 := ml xl yh (by omega)
  have p4 := ml xl yl (by omega)
  generalize ix * iy = q1 at *
  generalize ix * jy = q2 at *
  generalize jx * iy = q3 at *
  generalize jx * jy = q4 at *
  generalize A * B = P1 at *
  generalize A * D = P2 at *
  generalize C * B = P3 at *
  generalize C * D = P4 at *
  have u4 := up p4
  have s1 := ad p2 p3 (by omega)
  have s2 := ad s1 u4 (by omega)
  generalize q2 + q3 + jlushr q4 26 = mid at *
  obtain ⟨M, hM⟩ : ∃ M, M = P2 + P3 + P4 / 67108864 := ⟨_, rfl⟩
  rw [← hM] at s2 hp
  have u5 := up s2
  have s3 := ad p1 u5 (by omega)
  have d1 := dn s2
  have d2 := dn p4
  have f1 := sl (s := 26) (k := 26) d1 rfl (by decide) (by show M % 67108864 * 67108864 < _; omega)
  have f2 : (jlshl (mid &&& 67108863) 26 ||| (q4 &&& 67108863)).toInt = ((M % 67108864 * 67108864 + P4 % 67108864 : Nat) : Int) := by
    rw [l_or 26 (M % 67108864) (P4 % 67108864) (by rw [f1, Nat.mul_comm]) d2 (by show P4 % 67108864 < 67108864; omega), f1, d2]
    exact (Int.natCast_add _ _).symm
  obtain ⟨v, v1, v2⟩ := B_trace (s := 44) (d := 44) f2 (by omega) rfl
  refine ⟨v, v1, ?_⟩
  have f3 := sl (s := 8) (k := 8) s3 rfl (by decide) (by show (P1 + M / 67108864) * 256 < _; omega)
  have hv : ztr (M % 67108864 * 67108864 + P4 % 67108864) (2 ^ 44) < 2 ^ 8 := by
    have := ztr_le (M % 67108864 * 67108864 + P4 % 67108864) (2 ^ 44)
    unfold ztr
    show (if _ % 17592186044416 = 0 then _ / 17592186044416 else _) < 256
    split <;> omega
  rw [l_or 8 (P1 + M / 67108864) _ (by rw [f3, Nat.mul_comm]) v2 hv, f3, v2]
  have e : X * Y = (P1 + M / 67108864) * 256 * 2 ^ 44 + (M % 67108864 * 67108864 + P4 % 67108864) := by
    rw [← hp, Nat.mul_assoc (P1 + M / 67108864) 256, show 256 * 2 ^ 44 = 4503599627370496 from by decide]
  rw [e, ztr_add (p2pos 44) (by omega)]
  exact (Int.natCast_add _ _).symm
