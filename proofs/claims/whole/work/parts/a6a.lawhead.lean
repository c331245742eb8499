abbrev zLT : Type := (Int32) × (Int32) × (Int32) × (Int32) × (Int32) × (Nat → Int32) × (Int32) × (Nat → Int32) × (Int32) × (Nat → Int32) × (Int32) × (Nat → Int32) × (Int32) × (Int32) × (Nat → Int32) × (Int32) × (Nat → Int32) × (Int32) × (Nat → Int32) × (Int32) × (Nat → Int32) × (Int32) × (Nat → Int32) × (Int32) × (Nat → Int32) × (Int32) × (Nat → Int32) × (Int32) × (Int32) × (Int32) × (Int32) × (Int32) × (Nat → Int32) × (Nat → Int32) × (Nat → Int32) × (Nat → Int32) × (Nat → Int64) × (Int32)
theorem zrc : room_1.cells = 1065 := rfl
theorem zrs : room_1.slots = 13283 := rfl
theorem zcw_L_put : (.codeWith y_L_put c_L_put 6 (some .int) [((0 : Nat), (11 : Nat), (14 : Nat), (13 : Nat)), ((0 : Nat), (11 : Nat), (18 : Nat), (15 : Nat))] : Cond) ∈ T0 := z0 (zm3 (List.mem_of_getElem? (i := 31) rfl)) rfl
theorem zw_L_47 : zNW R_L 47 y_L_put c_L_put 6 (some .int) [((0 : Nat), (11 : Nat), (14 : Nat), (13 : Nat)), ((0 : Nat), (11 : Nat), (18 : Nat), (15 : Nat))] 4 := ⟨zcw_L_put, zin_L, zml_L_47, zst_L_put, by decide +kernel⟩
theorem zn_L_52 : zNV R_L 52 y_M_put c_M_put 6 (some .int) 2 := ⟨zco_M_put, zin_M, zml_L_52, zim_M_put, zse_M_M_put, by decide +kernel⟩
theorem zn_L_53 : zNV R_L 53 y_M_thrown c_M_thrown 1 (some .int) 0 := ⟨zco_M_thrown, zin_M, zml_L_53, zim_M_thrown, zse_M_M_thrown, by decide +kernel⟩
theorem zn_L_57 : zNV R_L 57 y_D_read c_D_read 3 (some .long) 0 := ⟨zco_D_read, zin_D, zml_L_57, zim_D_read, zse_D_D_read, by decide +kernel⟩
theorem zn_L_61 : zNV R_L 61 y_M_read c_M_read 4 (some .long) 0 := ⟨zco_M_read, zin_M, zml_L_61, zim_M_read, zse_M_M_read, by decide +kernel⟩
theorem zcw_L_reckon : (.codeWith y_L_reckon c_L_reckon 8 (some .int) [((0 : Nat), (12 : Nat), (15 : Nat), (13 : Nat))] : Cond) ∈ T0 := z0 (zm3 (List.mem_of_getElem? (i := 136) rfl)) rfl
theorem zw_L_62 : zNW R_L 62 y_L_reckon c_L_reckon 8 (some .int) [((0 : Nat), (12 : Nat), (15 : Nat), (13 : Nat))] 5 := ⟨zcw_L_reckon, zin_L, zml_L_62, zst_L_reckon, by decide +kernel⟩
theorem zn_L_65 : zNV R_L 65 y_M_reckon c_M_reckon 6 (some .long) 3 := ⟨zco_M_reckon, zin_M, zml_L_65, zim_M_reckon, zse_M_M_reckon, by decide +kernel⟩
theorem zcw_L_turn : (.codeWith y_L_turn c_L_turn 6 (some .int) [((0 : Nat), (10 : Nat), (13 : Nat), (13 : Nat))] : Cond) ∈ T0 := z0 (zm3 (List.mem_of_getElem? (i := 185) rfl)) rfl
theorem zw_L_66 : zNW R_L 66 y_L_turn c_L_turn 6 (some .int) [((0 : Nat), (10 : Nat), (13 : Nat), (13 : Nat))] 4 := ⟨zcw_L_turn, zin_L, zml_L_66, zst_L_turn, by decide +kernel⟩
theorem zn_L_68 : zNV R_L 68 y_M_turn c_M_turn 4 (some .long) 2 := ⟨zco_M_turn, zin_M, zml_L_68, zim_M_turn, zse_M_M_turn, by decide +kernel⟩
theorem zn_L_69 : zNV R_L 69 y_D_compare c_D_compare 9 (some .int) 2 := ⟨zco_D_compare, zin_D, zml_L_69, zim_D_compare, zse_D_D_compare, by decide +kernel⟩
theorem zn_L_73 : zNV R_L 73 y_M_compare c_M_compare 9 (some .int) 2 := ⟨zco_M_compare, zin_M, zml_L_73, zim_M_compare, zse_M_M_compare, by decide +kernel⟩
theorem zcw_L_whole : (.codeWith y_L_whole c_L_whole 6 (some .int) [((0 : Nat), (10 : Nat), (13 : Nat), (13 : Nat))] : Cond) ∈ T0 := z0 (zm3 (List.mem_of_getElem? (i := 214) rfl)) rfl
theorem zw_L_74 : zNW R_L 74 y_L_whole c_L_whole 6 (some .int) [((0 : Nat), (10 : Nat), (13 : Nat), (13 : Nat))] 4 := ⟨zcw_L_whole, zin_L, zml_L_74, zst_L_whole, by decide +kernel⟩
theorem zn_L_76 : zNV R_L 76 y_M_whole c_M_whole 7 (some .long) 2 := ⟨zco_M_whole, zin_M, zml_L_76, zim_M_whole, zse_M_M_whole, by decide +kernel⟩
theorem zn_L_77 : zNV R_L 77 y_D_of c_D_of 3 (some .long) 1 := ⟨zco_D_of, zin_D, zml_L_77, zim_D_of, zse_D_D_of, by decide +kernel⟩
theorem zn_L_81 : zNV R_L 81 y_M_of c_M_of 4 (some .long) 1 := ⟨zco_M_of, zin_M, zml_L_81, zim_M_of, zse_M_M_of, by decide +kernel⟩
theorem zn_L_82 : zNV R_L 82 y_D_write c_D_write 3 (some .int) 1 := ⟨zco_D_write, zin_D, zml_L_82, zim_D_write, zse_D_D_write, by decide +kernel⟩
theorem zn_L_86 : zNV R_L 86 y_M_write c_M_write 6 (some .int) 1 := ⟨zco_M_write, zin_M, zml_L_86, zim_M_write, zse_M_M_write, by decide +kernel⟩
theorem zcw_L_radix : (.codeWith y_L_radix c_L_radix 6 (some .int) [((0 : Nat), (11 : Nat), (14 : Nat), (13 : Nat))] : Cond) ∈ T0 := z0 (zm3 (List.mem_of_getElem? (i := 229) rfl)) rfl
theorem zw_L_87 : zNW R_L 87 y_L_radix c_L_radix 6 (some .int) [((0 : Nat), (11 : Nat), (14 : Nat), (13 : Nat))] 4 := ⟨zcw_L_radix, zin_L, zml_L_87, zst_L_radix, by decide +kernel⟩
theorem zn_L_89 : zNV R_L 89 y_M_radix c_M_radix 10 (some .int) 2 := ⟨zco_M_radix, zin_M, zml_L_89, zim_M_radix, zse_M_M_radix, by decide +kernel⟩
theorem zcw_L_form : (.codeWith y_L_form c_L_form 7 (some .int) [((0 : Nat), (13 : Nat), (16 : Nat), (13 : Nat))] : Cond) ∈ T0 := z0 (zm4 (List.mem_of_getElem? (i := 33) rfl)) rfl
theorem zw_L_90 : zNW R_L 90 y_L_form c_L_form 7 (some .int) [((0 : Nat), (13 : Nat), (16 : Nat), (13 : Nat))] 5 := ⟨zcw_L_form, zin_L, zml_L_90, zst_L_form, by decide +kernel⟩
theorem zn_L_93 : zNV R_L 93 y_M_form c_M_form 7 (some .int) 3 := ⟨zco_M_form, zin_M, zml_L_93, zim_M_form, zse_M_M_form, by decide +kernel⟩
theorem zcw_L_unit : (.codeWith y_L_unit c_L_unit 4 (some .int) [((0 : Nat), (9 : Nat), (12 : Nat), (39 : Nat))] : Cond) ∈ T0 := z0 (zm4 (List.mem_of_getElem? (i := 74) rfl)) rfl
theorem zw_L_94 : zNW R_L 94 y_L_unit c_L_unit 4 (some .int) [((0 : Nat), (9 : Nat), (12 : Nat), (39 : Nat))] 3 := ⟨zcw_L_unit, zin_L, zml_L_94, zst_L_unit, by decide +kernel⟩
theorem zn_L_97 : zNV R_L 97 y_M_unit c_M_unit 2 (some .int) 1 := ⟨zco_M_unit, zin_M, zml_L_97, zim_M_unit, zse_M_M_unit, by decide +kernel⟩
