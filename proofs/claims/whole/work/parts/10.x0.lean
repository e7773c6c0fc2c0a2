theorem dX0_init_0 : decode cX0_init 0 = .ok (.aload_n 0, 1) ∧ 0 + 1 = 1 := ⟨by decide +kernel, rfl⟩
theorem dX0_init_1 : decode cX0_init 1 = .ok (.invokespecial 3, 3) ∧ 1 + 3 = 4 := ⟨by decide +kernel, rfl⟩
theorem dX0_init_4 : decode cX0_init 4 = .ok (.aload_n 0, 1) ∧ 4 + 1 = 5 := ⟨by decide +kernel, rfl⟩
theorem dX0_init_5 : decode cX0_init 5 = .ok (.iconst 0, 1) ∧ 5 + 1 = 6 := ⟨by decide +kernel, rfl⟩
theorem dX0_init_6 : decode cX0_init 6 = .ok (.putfield 9, 3) ∧ 6 + 3 = 9 := ⟨by decide +kernel, rfl⟩
theorem dX0_init_9 : decode cX0_init 9 = .ok (.aload_n 0, 1) ∧ 9 + 1 = 10 := ⟨by decide +kernel, rfl⟩
theorem dX0_init_10 : decode cX0_init 10 = .ok (.bipush 6, 2) ∧ 10 + 2 = 12 := ⟨by decide +kernel, rfl⟩
theorem dX0_init_12 : decode cX0_init 12 = .ok (.newarray .int, 2) ∧ 12 + 2 = 14 := ⟨by decide +kernel, rfl⟩
theorem dX0_init_14 : decode cX0_init 14 = .ok (.putfield 15, 3) ∧ 14 + 3 = 17 := ⟨by decide +kernel, rfl⟩
theorem dX0_init_17 : decode cX0_init 17 = .ok (.aload_n 0, 1) ∧ 17 + 1 = 18 := ⟨by decide +kernel, rfl⟩
theorem dX0_init_18 : decode cX0_init 18 = .ok (.bipush 6, 2) ∧ 18 + 2 = 20 := ⟨by decide +kernel, rfl⟩
theorem dX0_init_20 : decode cX0_init 20 = .ok (.newarray .int, 2) ∧ 20 + 2 = 22 := ⟨by decide +kernel, rfl⟩
theorem dX0_init_22 : decode cX0_init 22 = .ok (.putfield 19, 3) ∧ 22 + 3 = 25 := ⟨by decide +kernel, rfl⟩
theorem dX0_init_25 : decode cX0_init 25 = .ok (.aload_n 0, 1) ∧ 25 + 1 = 26 := ⟨by decide +kernel, rfl⟩
theorem dX0_init_26 : decode cX0_init 26 = .ok (.bipush 6, 2) ∧ 26 + 2 = 28 := ⟨by decide +kernel, rfl⟩
theorem dX0_init_28 : decode cX0_init 28 = .ok (.newarray .int, 2) ∧ 28 + 2 = 30 := ⟨by decide +kernel, rfl⟩
theorem dX0_init_30 : decode cX0_init 30 = .ok (.putfield 22, 3) ∧ 30 + 3 = 33 := ⟨by decide +kernel, rfl⟩
theorem dX0_init_33 : decode cX0_init 33 = .ok (.aload_n 0, 1) ∧ 33 + 1 = 34 := ⟨by decide +kernel, rfl⟩
theorem dX0_init_34 : decode cX0_init 34 = .ok (.bipush 6, 2) ∧ 34 + 2 = 36 := ⟨by decide +kernel, rfl⟩
theorem dX0_init_36 : decode cX0_init 36 = .ok (.newarray .int, 2) ∧ 36 + 2 = 38 := ⟨by decide +kernel, rfl⟩
theorem dX0_init_38 : decode cX0_init 38 = .ok (.putfield 25, 3) ∧ 38 + 3 = 41 := ⟨by decide +kernel, rfl⟩
theorem dX0_init_41 : decode cX0_init 41 = .ok (.aload_n 0, 1) ∧ 41 + 1 = 42 := ⟨by decide +kernel, rfl⟩
theorem dX0_init_42 : decode cX0_init 42 = .ok (.iconst 0, 1) ∧ 42 + 1 = 43 := ⟨by decide +kernel, rfl⟩
theorem dX0_init_43 : decode cX0_init 43 = .ok (.putfield 28, 3) ∧ 43 + 3 = 46 := ⟨by decide +kernel, rfl⟩
theorem dX0_init_46 : decode cX0_init 46 = .ok (.aload_n 0, 1) ∧ 46 + 1 = 47 := ⟨by decide +kernel, rfl⟩
theorem dX0_init_47 : decode cX0_init 47 = .ok (.bipush 10, 2) ∧ 47 + 2 = 49 := ⟨by decide +kernel, rfl⟩
theorem dX0_init_49 : decode cX0_init 49 = .ok (.newarray .int, 2) ∧ 49 + 2 = 51 := ⟨by decide +kernel, rfl⟩
theorem dX0_init_51 : decode cX0_init 51 = .ok (.putfield 31, 3) ∧ 51 + 3 = 54 := ⟨by decide +kernel, rfl⟩
theorem dX0_init_54 : decode cX0_init 54 = .ok (.aload_n 0, 1) ∧ 54 + 1 = 55 := ⟨by decide +kernel, rfl⟩
theorem dX0_init_55 : decode cX0_init 55 = .ok (.bipush 10, 2) ∧ 55 + 2 = 57 := ⟨by decide +kernel, rfl⟩
theorem dX0_init_57 : decode cX0_init 57 = .ok (.newarray .int, 2) ∧ 57 + 2 = 59 := ⟨by decide +kernel, rfl⟩
theorem dX0_init_59 : decode cX0_init 59 = .ok (.putfield 34, 3) ∧ 59 + 3 = 62 := ⟨by decide +kernel, rfl⟩
theorem dX0_init_62 : decode cX0_init 62 = .ok (.aload_n 0, 1) ∧ 62 + 1 = 63 := ⟨by decide +kernel, rfl⟩
theorem dX0_init_63 : decode cX0_init 63 = .ok (.bipush 10, 2) ∧ 63 + 2 = 65 := ⟨by decide +kernel, rfl⟩
theorem dX0_init_65 : decode cX0_init 65 = .ok (.newarray .int, 2) ∧ 65 + 2 = 67 := ⟨by decide +kernel, rfl⟩
theorem dX0_init_67 : decode cX0_init 67 = .ok (.putfield 37, 3) ∧ 67 + 3 = 70 := ⟨by decide +kernel, rfl⟩
theorem dX0_init_70 : decode cX0_init 70 = .ok (.aload_n 0, 1) ∧ 70 + 1 = 71 := ⟨by decide +kernel, rfl⟩
theorem dX0_init_71 : decode cX0_init 71 = .ok (.iconst 0, 1) ∧ 71 + 1 = 72 := ⟨by decide +kernel, rfl⟩
theorem dX0_init_72 : decode cX0_init 72 = .ok (.putfield 40, 3) ∧ 72 + 3 = 75 := ⟨by decide +kernel, rfl⟩
theorem dX0_init_75 : decode cX0_init 75 = .ok (.aload_n 0, 1) ∧ 75 + 1 = 76 := ⟨by decide +kernel, rfl⟩
theorem dX0_init_76 : decode cX0_init 76 = .ok (.iconst 0, 1) ∧ 76 + 1 = 77 := ⟨by decide +kernel, rfl⟩
theorem dX0_init_77 : decode cX0_init 77 = .ok (.putfield 43, 3) ∧ 77 + 3 = 80 := ⟨by decide +kernel, rfl⟩
theorem dX0_init_80 : decode cX0_init 80 = .ok (.aload_n 0, 1) ∧ 80 + 1 = 81 := ⟨by decide +kernel, rfl⟩
theorem dX0_init_81 : decode cX0_init 81 = .ok (.aconst_null, 1) ∧ 81 + 1 = 82 := ⟨by decide +kernel, rfl⟩
theorem dX0_init_82 : decode cX0_init 82 = .ok (.putfield 46, 3) ∧ 82 + 3 = 85 := ⟨by decide +kernel, rfl⟩
theorem dX0_init_85 : decode cX0_init 85 = .ok (.aload_n 0, 1) ∧ 85 + 1 = 86 := ⟨by decide +kernel, rfl⟩
theorem dX0_init_86 : decode cX0_init 86 = .ok (.bipush 6, 2) ∧ 86 + 2 = 88 := ⟨by decide +kernel, rfl⟩
theorem dX0_init_88 : decode cX0_init 88 = .ok (.newarray .int, 2) ∧ 88 + 2 = 90 := ⟨by decide +kernel, rfl⟩
theorem dX0_init_90 : decode cX0_init 90 = .ok (.putfield 52, 3) ∧ 90 + 3 = 93 := ⟨by decide +kernel, rfl⟩
theorem dX0_init_93 : decode cX0_init 93 = .ok (.aload_n 0, 1) ∧ 93 + 1 = 94 := ⟨by decide +kernel, rfl⟩
theorem dX0_init_94 : decode cX0_init 94 = .ok (.bipush 6, 2) ∧ 94 + 2 = 96 := ⟨by decide +kernel, rfl⟩
theorem dX0_init_96 : decode cX0_init 96 = .ok (.newarray .int, 2) ∧ 96 + 2 = 98 := ⟨by decide +kernel, rfl⟩
theorem dX0_init_98 : decode cX0_init 98 = .ok (.putfield 55, 3) ∧ 98 + 3 = 101 := ⟨by decide +kernel, rfl⟩
theorem dX0_init_101 : decode cX0_init 101 = .ok (.aload_n 0, 1) ∧ 101 + 1 = 102 := ⟨by decide +kernel, rfl⟩
theorem dX0_init_102 : decode cX0_init 102 = .ok (.bipush 6, 2) ∧ 102 + 2 = 104 := ⟨by decide +kernel, rfl⟩
theorem dX0_init_104 : decode cX0_init 104 = .ok (.newarray .int, 2) ∧ 104 + 2 = 106 := ⟨by decide +kernel, rfl⟩
theorem dX0_init_106 : decode cX0_init 106 = .ok (.putfield 58, 3) ∧ 106 + 3 = 109 := ⟨by decide +kernel, rfl⟩
theorem dX0_init_109 : decode cX0_init 109 = .ok (.return_, 1) := by decide +kernel
def F_X0_init (S : Hp) (o : Nat) : Option (Hp) :=
  (pI S (some o) 0 0 (0 : Int32)).bind fun S6 =>
  (chn S.1 S6 [(some o), (some o)]).bind fun _ =>
  (nA S6 6 (6 : Int32)).bind fun S12 =>
  (pR S12 (some o) 0 1 (some S6.1)).bind fun S14 =>
  (chn S.1 S14 [(some o), (some o)]).bind fun _ =>
  (nA S14 6 (6 : Int32)).bind fun S20 =>
  (pR S20 (some o) 0 2 (some S14.1)).bind fun S22 =>
  (chn S.1 S22 [(some o), (some o)]).bind fun _ =>
  (nA S22 6 (6 : Int32)).bind fun S28 =>
  (pR S28 (some o) 0 3 (some S22.1)).bind fun S30 =>
  (chn S.1 S30 [(some o), (some o)]).bind fun _ =>
  (nA S30 6 (6 : Int32)).bind fun S36 =>
  (pR S36 (some o) 0 4 (some S30.1)).bind fun S38 =>
  (pI S38 (some o) 0 5 (0 : Int32)).bind fun S43 =>
  (chn S.1 S43 [(some o), (some o)]).bind fun _ =>
  (nA S43 10 (10 : Int32)).bind fun S49 =>
  (pR S49 (some o) 0 6 (some S43.1)).bind fun S51 =>
  (chn S.1 S51 [(some o), (some o)]).bind fun _ =>
  (nA S51 10 (10 : Int32)).bind fun S57 =>
  (pR S57 (some o) 0 7 (some S51.1)).bind fun S59 =>
  (chn S.1 S59 [(some o), (some o)]).bind fun _ =>
  (nA S59 10 (10 : Int32)).bind fun S65 =>
  (pR S65 (some o) 0 8 (some S59.1)).bind fun S67 =>
  (pI S67 (some o) 0 9 (0 : Int32)).bind fun S72 =>
  (pI S72 (some o) 0 10 (0 : Int32)).bind fun S77 =>
  (pR S77 (some o) 0 11 none).bind fun S82 =>
  (chn S.1 S82 [(some o), (some o)]).bind fun _ =>
  (nA S82 6 (6 : Int32)).bind fun S88 =>
  (pR S88 (some o) 0 12 (some S82.1)).bind fun S90 =>
  (chn S.1 S90 [(some o), (some o)]).bind fun _ =>
  (nA S90 6 (6 : Int32)).bind fun S96 =>
  (pR S96 (some o) 0 13 (some S90.1)).bind fun S98 =>
  (chn S.1 S98 [(some o), (some o)]).bind fun _ =>
  (nA S98 6 (6 : Int32)).bind fun S104 =>
  (pR S104 (some o) 0 14 (some S98.1)).bind fun S106 =>
  some S106
set_option maxRecDepth 100000 in
set_option maxHeartbeats 4000000 in
theorem w_X0_init {E : Cx} {l : Launch} {res : Hp} {ad : Nat → Nat} {S : Hp} {o : Nat} (K : Kx E cX0_init RX0 (rmd 1 10 72)) (X : Bx E l yX0_init 1 none 10 72 ad (QVa S.1 res)) (h : F_X0_init S o = some res) : J E 0 0 0 [(0, vR (some o))] [] S ad := by
  have he : ∀ k, k < S.1 → ad k = ad k := fun _ _ => rfl
  refine j_aload_n K dX0_init_0 rfl 0 rfl ?_
  refine j_oinit K dX0_init_1 z30 z23 z24 (Nat.le_of_ble_eq_true rfl) (Nat.le_of_ble_eq_true rfl) ?_
  refine j_aload_n K dX0_init_4 rfl 0 rfl ?_
  refine j_iconst (v := (0 : Int32)) K dX0_init_5 (by decide) ?_
  obtain ⟨S6, e6, h⟩ := bd h
  refine fpX0_9 K dX0_init_6 e6 ?_
  refine j_aload_n K dX0_init_9 rfl 0 rfl ?_
  refine j_bipush (v := (6 : Int32)) K dX0_init_10 (by decide) ?_
  obtain ⟨u12, e12, h⟩ := bd h
  obtain ⟨S12, g12, h⟩ := bd h
  refine j_nA (M := 6) K dX0_init_12 z88 (by decide) ⟨Nat.le_of_ble_eq_true rfl, Nat.le_of_ble_eq_true rfl⟩ rfl e12 g12 (fun ad12 a12 => ?_)
  have he12 := heX e12 a12 he
  obtain ⟨S14, e14, h⟩ := bd h
  refine fpX0_15 X.2.2.2.1 K dX0_init_14 e14 ?_
  refine j_aload_n K dX0_init_17 rfl 0 rfl ?_
  refine j_bipush (v := (6 : Int32)) K dX0_init_18 (by decide) ?_
  obtain ⟨u20, e20, h⟩ := bd h
  obtain ⟨S20, g20, h⟩ := bd h
  refine j_nA (M := 6) K dX0_init_20 z88 (by decide) ⟨Nat.le_of_ble_eq_true rfl, Nat.le_of_ble_eq_true rfl⟩ rfl e20 g20 (fun ad20 a20 => ?_)
  have he20 := heX e20 a20 he12
  obtain ⟨S22, e22, h⟩ := bd h
  refine fpX0_19 X.2.2.2.1 K dX0_init_22 e22 ?_
  refine j_aload_n K dX0_init_25 rfl 0 rfl ?_
  refine j_bipush (v := (6 : Int32)) K dX0_init_26 (by decide) ?_
  obtain ⟨u28, e28, h⟩ := bd h
  obtain ⟨S28, g28, h⟩ := bd h
  refine j_nA (M := 6) K dX0_init_28 z88 (by decide) ⟨Nat.le_of_ble_eq_true rfl, Nat.le_of_ble_eq_true rfl⟩ rfl e28 g28 (fun ad28 a28 => ?_)
  have he28 := heX e28 a28 he20
  obtain ⟨S30, e30, h⟩ := bd h
  refine fpX0_22 X.2.2.2.1 K dX0_init_30 e30 ?_
  refine j_aload_n K dX0_init_33 rfl 0 rfl ?_
  refine j_bipush (v := (6 : Int32)) K dX0_init_34 (by decide) ?_
  obtain ⟨u36, e36, h⟩ := bd h
  obtain ⟨S36, g36, h⟩ := bd h
  refine j_nA (M := 6) K dX0_init_36 z88 (by decide) ⟨Nat.le_of_ble_eq_true rfl, Nat.le_of_ble_eq_true rfl⟩ rfl e36 g36 (fun ad36 a36 => ?_)
  have he36 := heX e36 a36 he28
  obtain ⟨S38, e38, h⟩ := bd h
  refine fpX0_25 X.2.2.2.1 K dX0_init_38 e38 ?_
  refine j_aload_n K dX0_init_41 rfl 0 rfl ?_
  refine j_iconst (v := (0 : Int32)) K dX0_init_42 (by decide) ?_
  obtain ⟨S43, e43, h⟩ := bd h
  refine fpX0_28 K dX0_init_43 e43 ?_
  refine j_aload_n K dX0_init_46 rfl 0 rfl ?_
  refine j_bipush (v := (10 : Int32)) K dX0_init_47 (by decide) ?_
  obtain ⟨u49, e49, h⟩ := bd h
  obtain ⟨S49, g49, h⟩ := bd h
  refine j_nA (M := 10) K dX0_init_49 z88 (by decide) ⟨Nat.le_of_ble_eq_true rfl, Nat.le_of_ble_eq_true rfl⟩ rfl e49 g49 (fun ad49 a49 => ?_)
  have he49 := heX e49 a49 he36
  obtain ⟨S51, e51, h⟩ := bd h
  refine fpX0_31 X.2.2.2.1 K dX0_init_51 e51 ?_
  refine j_aload_n K dX0_init_54 rfl 0 rfl ?_
  refine j_bipush (v := (10 : Int32)) K dX0_init_55 (by decide) ?_
  obtain ⟨u57, e57, h⟩ := bd h
  obtain ⟨S57, g57, h⟩ := bd h
  refine j_nA (M := 10) K dX0_init_57 z88 (by decide) ⟨Nat.le_of_ble_eq_true rfl, Nat.le_of_ble_eq_true rfl⟩ rfl e57 g57 (fun ad57 a57 => ?_)
  have he57 := heX e57 a57 he49
  obtain ⟨S59, e59, h⟩ := bd h
  refine fpX0_34 X.2.2.2.1 K dX0_init_59 e59 ?_
  refine j_aload_n K dX0_init_62 rfl 0 rfl ?_
  refine j_bipush (v := (10 : Int32)) K dX0_init_63 (by decide) ?_
  obtain ⟨u65, e65, h⟩ := bd h
  obtain ⟨S65, g65, h⟩ := bd h
  refine j_nA (M := 10) K dX0_init_65 z88 (by decide) ⟨Nat.le_of_ble_eq_true rfl, Nat.le_of_ble_eq_true rfl⟩ rfl e65 g65 (fun ad65 a65 => ?_)
  have he65 := heX e65 a65 he57
  obtain ⟨S67, e67, h⟩ := bd h
  refine fpX0_37 X.2.2.2.1 K dX0_init_67 e67 ?_
  refine j_aload_n K dX0_init_70 rfl 0 rfl ?_
  refine j_iconst (v := (0 : Int32)) K dX0_init_71 (by decide) ?_
  obtain ⟨S72, e72, h⟩ := bd h
  refine fpX0_40 K dX0_init_72 e72 ?_
  refine j_aload_n K dX0_init_75 rfl 0 rfl ?_
  refine j_iconst (v := (0 : Int32)) K dX0_init_76 (by decide) ?_
  obtain ⟨S77, e77, h⟩ := bd h
  refine fpX0_43 K dX0_init_77 e77 ?_
  refine j_aload_n K dX0_init_80 rfl 0 rfl ?_
  refine j_null K dX0_init_81 ?_
  obtain ⟨S82, e82, h⟩ := bd h
  refine fpX0_46 K dX0_init_82 e82 ?_
  refine j_aload_n K dX0_init_85 rfl 0 rfl ?_
  refine j_bipush (v := (6 : Int32)) K dX0_init_86 (by decide) ?_
  obtain ⟨u88, e88, h⟩ := bd h
  obtain ⟨S88, g88, h⟩ := bd h
  refine j_nA (M := 6) K dX0_init_88 z88 (by decide) ⟨Nat.le_of_ble_eq_true rfl, Nat.le_of_ble_eq_true rfl⟩ rfl e88 g88 (fun ad88 a88 => ?_)
  have he88 := heX e88 a88 he65
  obtain ⟨S90, e90, h⟩ := bd h
  refine fpX0_52 X.2.2.2.1 K dX0_init_90 e90 ?_
  refine j_aload_n K dX0_init_93 rfl 0 rfl ?_
  refine j_bipush (v := (6 : Int32)) K dX0_init_94 (by decide) ?_
  obtain ⟨u96, e96, h⟩ := bd h
  obtain ⟨S96, g96, h⟩ := bd h
  refine j_nA (M := 6) K dX0_init_96 z88 (by decide) ⟨Nat.le_of_ble_eq_true rfl, Nat.le_of_ble_eq_true rfl⟩ rfl e96 g96 (fun ad96 a96 => ?_)
  have he96 := heX e96 a96 he88
  obtain ⟨S98, e98, h⟩ := bd h
  refine fpX0_55 X.2.2.2.1 K dX0_init_98 e98 ?_
  refine j_aload_n K dX0_init_101 rfl 0 rfl ?_
  refine j_bipush (v := (6 : Int32)) K dX0_init_102 (by decide) ?_
  obtain ⟨u104, e104, h⟩ := bd h
  obtain ⟨S104, g104, h⟩ := bd h
  refine j_nA (M := 6) K dX0_init_104 z88 (by decide) ⟨Nat.le_of_ble_eq_true rfl, Nat.le_of_ble_eq_true rfl⟩ rfl e104 g104 (fun ad104 a104 => ?_)
  have he104 := heX e104 a104 he96
  obtain ⟨S106, e106, h⟩ := bd h
  refine fpX0_58 X.2.2.2.1 K dX0_init_106 e106 ?_
  exact j_vretA K X he104 dX0_init_109 (Nat.le_of_ble_eq_true rfl) (Nat.le_of_ble_eq_true rfl) h
theorem c_X0_init {l : Launch} {S : Hp} {o : Nat} {res : Hp} (h : F_X0_init S o = some res) : Ct l yX0_init cX0_init 1 none (rmd 1 10 72) 10 72 [vR (some o)] S (QVa S.1 res) :=
  z_entry (by decide +kernel) (Nat.le_of_ble_eq_true rfl) (fun E ad K X => w_X0_init K X h)

def B_X7_at_17 (S : Hp) (s0 : Int32) : Option (Int32 × Hp) :=
  some (s0, S)
set_option maxRecDepth 100000 in
set_option maxHeartbeats 4000000 in
theorem w_X7_at_17 {E : Cx} {l : Launch} {res : Int32 × Hp} {ad : Nat → Nat} {S : Hp} {s0 : Int32} (K : Kx E cX7_at RX7 (rmd 0 0 0)) (X : Bx E l yX7_at 2 (some .int) 0 0 ad (QI res)) (h : B_X7_at_17 S s0 = some res) : J E 0 0 17 [] [vI s0] S ad := by
  exact j_iret K X dX7_at_17 h
def B_X7_at_16 (S : Hp) : Option (Int32 × Hp) :=
  B_X7_at_17 S (0 : Int32)
set_option maxRecDepth 100000 in
set_option maxHeartbeats 4000000 in
theorem w_X7_at_16 {E : Cx} {l : Launch} {res : Int32 × Hp} {ad : Nat → Nat} {S : Hp} (K : Kx E cX7_at RX7 (rmd 0 0 0)) (X : Bx E l yX7_at 2 (some .int) 0 0 ad (QI res)) (h : B_X7_at_16 S = some res) : J E 0 0 16 [] [] S ad := by
  refine j_iconst (v := (0 : Int32)) K dX7_at_16 (by decide) ?_
  exact w_X7_at_17 K X h
def F_X7_at (S : Hp) (x0 : Option Nat) (x1 : Int32) : Option (Int32 × Hp) :=
  if x1 < 0 then
    B_X7_at_16 S
  else
    (aL S x0 7).bind fun v6 =>
    if v6 ≤ x1 then
      B_X7_at_16 S
    else
      (aG S x0 x1).bind fun v12 =>
      B_X7_at_17 S v12
set_option maxRecDepth 100000 in
set_option maxHeartbeats 4000000 in
theorem w_X7_at {E : Cx} {l : Launch} {res : Int32 × Hp} {ad : Nat → Nat} {S : Hp} {x0 : Option Nat} {x1 : Int32} (K : Kx E cX7_at RX7 (rmd 0 0 0)) (X : Bx E l yX7_at 2 (some .int) 0 0 ad (QI res)) (h : F_X7_at S x0 x1 = some res) : J E 0 0 0 [(0, vR x0), (1, vI x1)] [] S ad := by
  refine j_iload_n K dX7_at_0 rfl 1 rfl ?_
  refine j_if_lt K dX7_at_1 (fun c1 => ?_) (fun c1 => ?_)
  · replace h := it c1 h
    exact j_sub [] rfl (w_X7_at_16 K X h)
  · replace h := ie c1 h
    refine j_iload_n K dX7_at_4 rfl 1 rfl ?_
    refine j_aload_n K dX7_at_5 rfl 0 rfl ?_
    obtain ⟨v6, e6, h⟩ := bd h
    refine j_aL K (by decide) dX7_at_6 e6 ?_
    refine j_icmp_ge K dX7_at_7 (fun c7 => ?_) (fun c7 => ?_)
    · replace h := it c7 h
      exact j_sub [] rfl (w_X7_at_16 K X h)
    · replace h := ie c7 h
      refine j_aload_n K dX7_at_10 rfl 0 rfl ?_
      refine j_iload_n K dX7_at_11 rfl 1 rfl ?_
      obtain ⟨v12, e12, h⟩ := bd h
      refine j_aG K dX7_at_12 e12 ?_
      refine j_goto K dX7_at_13 ?_
      exact j_sub [] rfl (w_X7_at_17 K X h)
theorem c_X7_at {l : Launch} {S : Hp} {x0 : Option Nat} {x1 : Int32} {res : Int32 × Hp} (h : F_X7_at S x0 x1 = some res) : Ct l yX7_at cX7_at 2 (some .int) (rmd 0 0 0) 0 0 [vR x0, vI x1] S (QI res) :=
  z_entry (by decide +kernel) (Nat.le_of_ble_eq_true rfl) (fun E ad K X => w_X7_at K X h)

theorem dX7_store_0 : decode cX7_store 0 = .ok (.iload_n 1, 1) ∧ 0 + 1 = 1 := ⟨by decide +kernel, rfl⟩
theorem dX7_store_1 : decode cX7_store 1 = .ok (.ifCond .lt 13, 3) ∧ 1 + 3 = 4 ∧ ((1 : Nat) : Int) + (13) = ((14 : Nat) : Int) := ⟨by decide +kernel, rfl, by decide⟩
theorem dX7_store_4 : decode cX7_store 4 = .ok (.iload_n 1, 1) ∧ 4 + 1 = 5 := ⟨by decide +kernel, rfl⟩
theorem dX7_store_5 : decode cX7_store 5 = .ok (.aload_n 0, 1) ∧ 5 + 1 = 6 := ⟨by decide +kernel, rfl⟩
theorem dX7_store_6 : decode cX7_store 6 = .ok (.arraylength, 1) ∧ 6 + 1 = 7 := ⟨by decide +kernel, rfl⟩
theorem dX7_store_7 : decode cX7_store 7 = .ok (.if_icmp .ge 7, 3) ∧ 7 + 3 = 10 ∧ ((7 : Nat) : Int) + (7) = ((14 : Nat) : Int) := ⟨by decide +kernel, rfl, by decide⟩
theorem dX7_store_10 : decode cX7_store 10 = .ok (.aload_n 0, 1) ∧ 10 + 1 = 11 := ⟨by decide +kernel, rfl⟩
theorem dX7_store_11 : decode cX7_store 11 = .ok (.iload_n 1, 1) ∧ 11 + 1 = 12 := ⟨by decide +kernel, rfl⟩
theorem dX7_store_12 : decode cX7_store 12 = .ok (.iload_n 2, 1) ∧ 12 + 1 = 13 := ⟨by decide +kernel, rfl⟩
theorem dX7_store_13 : decode cX7_store 13 = .ok (.iastore, 1) ∧ 13 + 1 = 14 := ⟨by decide +kernel, rfl⟩
theorem dX7_store_14 : decode cX7_store 14 = .ok (.return_, 1) := by decide +kernel
def B_X7_store_14 (S : Hp) : Option (Hp) :=
  some S
set_option maxRecDepth 100000 in
set_option maxHeartbeats 4000000 in
theorem w_X7_store_14 {E : Cx} {l : Launch} {res : Hp} {ad : Nat → Nat} {S : Hp} (K : Kx E cX7_store RX7 (rmd 0 0 0)) (X : Bx E l yX7_store 3 none 0 0 ad (QV res)) (h : B_X7_store_14 S = some res) : J E 0 0 14 [] [] S ad := by
  exact j_vret K X dX7_store_14 h
def F_X7_store (S : Hp) (x0 : Option Nat) (x1 : Int32) (x2 : Int32) : Option (Hp) :=
  if x1 < 0 then
    B_X7_store_14 S
  else
    (aL S x0 7).bind fun v6 =>
    if v6 ≤ x1 then
      B_X7_store_14 S
    else
      (aP S x0 x1 x2).bind fun S13 =>
      B_X7_store_14 S13
set_option maxRecDepth 100000 in
set_option maxHeartbeats 4000000 in
theorem w_X7_store {E : Cx} {l : Launch} {res : Hp} {ad : Nat → Nat} {S : Hp} {x0 : Option Nat} {x1 : Int32} {x2 : Int32} (K : Kx E cX7_store RX7 (rmd 0 0 0)) (X : Bx E l yX7_store 3 none 0 0 ad (QV res)) (h : F_X7_store S x0 x1 x2 = some res) : J E 0 0 0 [(0, vR x0), (1, vI x1), (2, vI x2)] [] S ad := by
  refine j_iload_n K dX7_store_0 rfl 1 rfl ?_
  refine j_if_lt K dX7_store_1 (fun c1 => ?_) (fun c1 => ?_)
  · replace h := it c1 h
    exact j_sub [] rfl (w_X7_store_14 K X h)
  · replace h := ie c1 h
    refine j_iload_n K dX7_store_4 rfl 1 rfl ?_
    refine j_aload_n K dX7_store_5 rfl 0 rfl ?_
    obtain ⟨v6, e6, h⟩ := bd h
    refine j_aL K (by decide) dX7_store_6 e6 ?_
    refine j_icmp_ge K dX7_store_7 (fun c7 => ?_) (fun c7 => ?_)
    · replace h := it c7 h
      exact j_sub [] rfl (w_X7_store_14 K X h)
    · replace h := ie c7 h
      refine j_aload_n K dX7_store_10 rfl 0 rfl ?_
      refine j_iload_n K dX7_store_11 rfl 1 rfl ?_
      refine j_iload_n K dX7_store_12 rfl 2 rfl ?_
      obtain ⟨S13, e13, h⟩ := bd h
      refine j_aP K dX7_store_13 e13 ?_
      exact j_sub [] rfl (w_X7_store_14 K X h)
theorem c_X7_store {l : Launch} {S : Hp} {x0 : Option Nat} {x1 : Int32} {x2 : Int32} {res : Hp} (h : F_X7_store S x0 x1 x2 = some res) : Ct l yX7_store cX7_store 3 none (rmd 0 0 0) 0 0 [vR x0, vI x1, vI x2] S (QV res) :=
  z_entry (by decide +kernel) (Nat.le_of_ble_eq_true rfl) (fun E ad K X => w_X7_store K X h)

theorem dX0_takeFrom_0 : decode cX0_takeFrom 0 = .ok (.aload_n 0, 1) ∧ 0 + 1 = 1 := ⟨by decide +kernel, rfl⟩
theorem dX0_takeFrom_1 : decode cX0_takeFrom 1 = .ok (.aload_n 1, 1) ∧ 1 + 1 = 2 := ⟨by decide +kernel, rfl⟩
theorem dX0_takeFrom_2 : decode cX0_takeFrom 2 = .ok (.getfield 9, 3) ∧ 2 + 3 = 5 := ⟨by decide +kernel, rfl⟩
theorem dX0_takeFrom_5 : decode cX0_takeFrom 5 = .ok (.putfield 9, 3) ∧ 5 + 3 = 8 := ⟨by decide +kernel, rfl⟩
theorem dX0_takeFrom_8 : decode cX0_takeFrom 8 = .ok (.aload_n 0, 1) ∧ 8 + 1 = 9 := ⟨by decide +kernel, rfl⟩
theorem dX0_takeFrom_9 : decode cX0_takeFrom 9 = .ok (.aload_n 1, 1) ∧ 9 + 1 = 10 := ⟨by decide +kernel, rfl⟩
theorem dX0_takeFrom_10 : decode cX0_takeFrom 10 = .ok (.getfield 28, 3) ∧ 10 + 3 = 13 := ⟨by decide +kernel, rfl⟩
theorem dX0_takeFrom_13 : decode cX0_takeFrom 13 = .ok (.putfield 28, 3) ∧ 13 + 3 = 16 := ⟨by decide +kernel, rfl⟩
theorem dX0_takeFrom_16 : decode cX0_takeFrom 16 = .ok (.aload_n 0, 1) ∧ 16 + 1 = 17 := ⟨by decide +kernel, rfl⟩
theorem dX0_takeFrom_17 : decode cX0_takeFrom 17 = .ok (.aload_n 1, 1) ∧ 17 + 1 = 18 := ⟨by decide +kernel, rfl⟩
theorem dX0_takeFrom_18 : decode cX0_takeFrom 18 = .ok (.getfield 40, 3) ∧ 18 + 3 = 21 := ⟨by decide +kernel, rfl⟩
theorem dX0_takeFrom_21 : decode cX0_takeFrom 21 = .ok (.putfield 40, 3) ∧ 21 + 3 = 24 := ⟨by decide +kernel, rfl⟩
theorem dX0_takeFrom_24 : decode cX0_takeFrom 24 = .ok (.aload_n 0, 1) ∧ 24 + 1 = 25 := ⟨by decide +kernel, rfl⟩
theorem dX0_takeFrom_25 : decode cX0_takeFrom 25 = .ok (.aload_n 1, 1) ∧ 25 + 1 = 26 := ⟨by decide +kernel, rfl⟩
theorem dX0_takeFrom_26 : decode cX0_takeFrom 26 = .ok (.getfield 43, 3) ∧ 26 + 3 = 29 := ⟨by decide +kernel, rfl⟩
theorem dX0_takeFrom_29 : decode cX0_takeFrom 29 = .ok (.putfield 43, 3) ∧ 29 + 3 = 32 := ⟨by decide +kernel, rfl⟩
theorem dX0_takeFrom_32 : decode cX0_takeFrom 32 = .ok (.aload_n 0, 1) ∧ 32 + 1 = 33 := ⟨by decide +kernel, rfl⟩
theorem dX0_takeFrom_33 : decode cX0_takeFrom 33 = .ok (.aload_n 1, 1) ∧ 33 + 1 = 34 := ⟨by decide +kernel, rfl⟩
theorem dX0_takeFrom_34 : decode cX0_takeFrom 34 = .ok (.getfield 46, 3) ∧ 34 + 3 = 37 := ⟨by decide +kernel, rfl⟩
theorem dX0_takeFrom_37 : decode cX0_takeFrom 37 = .ok (.putfield 46, 3) ∧ 37 + 3 = 40 := ⟨by decide +kernel, rfl⟩
theorem dX0_takeFrom_40 : decode cX0_takeFrom 40 = .ok (.iconst 0, 1) ∧ 40 + 1 = 41 := ⟨by decide +kernel, rfl⟩
theorem dX0_takeFrom_41 : decode cX0_takeFrom 41 = .ok (.istore_n 2, 1) ∧ 41 + 1 = 42 := ⟨by decide +kernel, rfl⟩
theorem dX0_takeFrom_42 : decode cX0_takeFrom 42 = .ok (.iload_n 2, 1) ∧ 42 + 1 = 43 := ⟨by decide +kernel, rfl⟩
theorem dX0_takeFrom_43 : decode cX0_takeFrom 43 = .ok (.bipush 6, 2) ∧ 43 + 2 = 45 := ⟨by decide +kernel, rfl⟩
theorem dX0_takeFrom_45 : decode cX0_takeFrom 45 = .ok (.if_icmp .ge 73, 3) ∧ 45 + 3 = 48 ∧ ((45 : Nat) : Int) + (73) = ((118 : Nat) : Int) := ⟨by decide +kernel, rfl, by decide⟩
theorem dX0_takeFrom_48 : decode cX0_takeFrom 48 = .ok (.aload_n 0, 1) ∧ 48 + 1 = 49 := ⟨by decide +kernel, rfl⟩
theorem dX0_takeFrom_49 : decode cX0_takeFrom 49 = .ok (.getfield 15, 3) ∧ 49 + 3 = 52 := ⟨by decide +kernel, rfl⟩
theorem dX0_takeFrom_52 : decode cX0_takeFrom 52 = .ok (.iload_n 2, 1) ∧ 52 + 1 = 53 := ⟨by decide +kernel, rfl⟩
theorem dX0_takeFrom_53 : decode cX0_takeFrom 53 = .ok (.aload_n 1, 1) ∧ 53 + 1 = 54 := ⟨by decide +kernel, rfl⟩
theorem dX0_takeFrom_54 : decode cX0_takeFrom 54 = .ok (.getfield 15, 3) ∧ 54 + 3 = 57 := ⟨by decide +kernel, rfl⟩
theorem dX0_takeFrom_57 : decode cX0_takeFrom 57 = .ok (.iload_n 2, 1) ∧ 57 + 1 = 58 := ⟨by decide +kernel, rfl⟩
theorem dX0_takeFrom_58 : decode cX0_takeFrom 58 = .ok (.invokestatic 61, 3) := by decide +kernel
theorem dX0_takeFrom_61 : decode cX0_takeFrom 61 = .ok (.invokestatic 65, 3) := by decide +kernel
theorem dX0_takeFrom_64 : decode cX0_takeFrom 64 = .ok (.aload_n 0, 1) ∧ 64 + 1 = 65 := ⟨by decide +kernel, rfl⟩
theorem dX0_takeFrom_65 : decode cX0_takeFrom 65 = .ok (.getfield 19, 3) ∧ 65 + 3 = 68 := ⟨by decide +kernel, rfl⟩
theorem dX0_takeFrom_68 : decode cX0_takeFrom 68 = .ok (.iload_n 2, 1) ∧ 68 + 1 = 69 := ⟨by decide +kernel, rfl⟩
theorem dX0_takeFrom_69 : decode cX0_takeFrom 69 = .ok (.aload_n 1, 1) ∧ 69 + 1 = 70 := ⟨by decide +kernel, rfl⟩
theorem dX0_takeFrom_70 : decode cX0_takeFrom 70 = .ok (.getfield 19, 3) ∧ 70 + 3 = 73 := ⟨by decide +kernel, rfl⟩
theorem dX0_takeFrom_73 : decode cX0_takeFrom 73 = .ok (.iload_n 2, 1) ∧ 73 + 1 = 74 := ⟨by decide +kernel, rfl⟩
theorem dX0_takeFrom_74 : decode cX0_takeFrom 74 = .ok (.invokestatic 61, 3) := by decide +kernel
theorem dX0_takeFrom_77 : decode cX0_takeFrom 77 = .ok (.invokestatic 65, 3) := by decide +kernel
theorem dX0_takeFrom_80 : decode cX0_takeFrom 80 = .ok (.aload_n 0, 1) ∧ 80 + 1 = 81 := ⟨by decide +kernel, rfl⟩
theorem dX0_takeFrom_81 : decode cX0_takeFrom 81 = .ok (.getfield 22, 3) ∧ 81 + 3 = 84 := ⟨by decide +kernel, rfl⟩
theorem dX0_takeFrom_84 : decode cX0_takeFrom 84 = .ok (.iload_n 2, 1) ∧ 84 + 1 = 85 := ⟨by decide +kernel, rfl⟩
theorem dX0_takeFrom_85 : decode cX0_takeFrom 85 = .ok (.aload_n 1, 1) ∧ 85 + 1 = 86 := ⟨by decide +kernel, rfl⟩
theorem dX0_takeFrom_86 : decode cX0_takeFrom 86 = .ok (.getfield 22, 3) ∧ 86 + 3 = 89 := ⟨by decide +kernel, rfl⟩
theorem dX0_takeFrom_89 : decode cX0_takeFrom 89 = .ok (.iload_n 2, 1) ∧ 89 + 1 = 90 := ⟨by decide +kernel, rfl⟩
theorem dX0_takeFrom_90 : decode cX0_takeFrom 90 = .ok (.invokestatic 61, 3) := by decide +kernel
theorem dX0_takeFrom_93 : decode cX0_takeFrom 93 = .ok (.invokestatic 65, 3) := by decide +kernel
theorem dX0_takeFrom_96 : decode cX0_takeFrom 96 = .ok (.aload_n 0, 1) ∧ 96 + 1 = 97 := ⟨by decide +kernel, rfl⟩
theorem dX0_takeFrom_97 : decode cX0_takeFrom 97 = .ok (.getfield 25, 3) ∧ 97 + 3 = 100 := ⟨by decide +kernel, rfl⟩
theorem dX0_takeFrom_100 : decode cX0_takeFrom 100 = .ok (.iload_n 2, 1) ∧ 100 + 1 = 101 := ⟨by decide +kernel, rfl⟩
theorem dX0_takeFrom_101 : decode cX0_takeFrom 101 = .ok (.aload_n 1, 1) ∧ 101 + 1 = 102 := ⟨by decide +kernel, rfl⟩
theorem dX0_takeFrom_102 : decode cX0_takeFrom 102 = .ok (.getfield 25, 3) ∧ 102 + 3 = 105 := ⟨by decide +kernel, rfl⟩
theorem dX0_takeFrom_105 : decode cX0_takeFrom 105 = .ok (.iload_n 2, 1) ∧ 105 + 1 = 106 := ⟨by decide +kernel, rfl⟩
theorem dX0_takeFrom_106 : decode cX0_takeFrom 106 = .ok (.invokestatic 61, 3) := by decide +kernel
theorem dX0_takeFrom_109 : decode cX0_takeFrom 109 = .ok (.invokestatic 65, 3) := by decide +kernel
theorem dX0_takeFrom_112 : decode cX0_takeFrom 112 = .ok (.iinc 2 1, 3) ∧ 112 + 3 = 115 := ⟨by decide +kernel, rfl⟩
theorem dX0_takeFrom_115 : decode cX0_takeFrom 115 = .ok (.goto (-73), 3) ∧ ((115 : Nat) : Int) + (-73) = ((42 : Nat) : Int) := ⟨by decide +kernel, by decide⟩
theorem dX0_takeFrom_118 : decode cX0_takeFrom 118 = .ok (.iconst 0, 1) ∧ 118 + 1 = 119 := ⟨by decide +kernel, rfl⟩
theorem dX0_takeFrom_119 : decode cX0_takeFrom 119 = .ok (.istore_n 2, 1) ∧ 119 + 1 = 120 := ⟨by decide +kernel, rfl⟩
theorem dX0_takeFrom_120 : decode cX0_takeFrom 120 = .ok (.iload_n 2, 1) ∧ 120 + 1 = 121 := ⟨by decide +kernel, rfl⟩
theorem dX0_takeFrom_121 : decode cX0_takeFrom 121 = .ok (.bipush 10, 2) ∧ 121 + 2 = 123 := ⟨by decide +kernel, rfl⟩
theorem dX0_takeFrom_123 : decode cX0_takeFrom 123 = .ok (.if_icmp .ge 57, 3) ∧ 123 + 3 = 126 ∧ ((123 : Nat) : Int) + (57) = ((180 : Nat) : Int) := ⟨by decide +kernel, rfl, by decide⟩
theorem dX0_takeFrom_126 : decode cX0_takeFrom 126 = .ok (.aload_n 0, 1) ∧ 126 + 1 = 127 := ⟨by decide +kernel, rfl⟩
theorem dX0_takeFrom_127 : decode cX0_takeFrom 127 = .ok (.getfield 31, 3) ∧ 127 + 3 = 130 := ⟨by decide +kernel, rfl⟩
theorem dX0_takeFrom_130 : decode cX0_takeFrom 130 = .ok (.iload_n 2, 1) ∧ 130 + 1 = 131 := ⟨by decide +kernel, rfl⟩
theorem dX0_takeFrom_131 : decode cX0_takeFrom 131 = .ok (.aload_n 1, 1) ∧ 131 + 1 = 132 := ⟨by decide +kernel, rfl⟩
theorem dX0_takeFrom_132 : decode cX0_takeFrom 132 = .ok (.getfield 31, 3) ∧ 132 + 3 = 135 := ⟨by decide +kernel, rfl⟩
theorem dX0_takeFrom_135 : decode cX0_takeFrom 135 = .ok (.iload_n 2, 1) ∧ 135 + 1 = 136 := ⟨by decide +kernel, rfl⟩
theorem dX0_takeFrom_136 : decode cX0_takeFrom 136 = .ok (.invokestatic 61, 3) := by decide +kernel
theorem dX0_takeFrom_139 : decode cX0_takeFrom 139 = .ok (.invokestatic 65, 3) := by decide +kernel
theorem dX0_takeFrom_142 : decode cX0_takeFrom 142 = .ok (.aload_n 0, 1) ∧ 142 + 1 = 143 := ⟨by decide +kernel, rfl⟩
theorem dX0_takeFrom_143 : decode cX0_takeFrom 143 = .ok (.getfield 34, 3) ∧ 143 + 3 = 146 := ⟨by decide +kernel, rfl⟩
theorem dX0_takeFrom_146 : decode cX0_takeFrom 146 = .ok (.iload_n 2, 1) ∧ 146 + 1 = 147 := ⟨by decide +kernel, rfl⟩
theorem dX0_takeFrom_147 : decode cX0_takeFrom 147 = .ok (.aload_n 1, 1) ∧ 147 + 1 = 148 := ⟨by decide +kernel, rfl⟩
theorem dX0_takeFrom_148 : decode cX0_takeFrom 148 = .ok (.getfield 34, 3) ∧ 148 + 3 = 151 := ⟨by decide +kernel, rfl⟩
theorem dX0_takeFrom_151 : decode cX0_takeFrom 151 = .ok (.iload_n 2, 1) ∧ 151 + 1 = 152 := ⟨by decide +kernel, rfl⟩
theorem dX0_takeFrom_152 : decode cX0_takeFrom 152 = .ok (.invokestatic 61, 3) := by decide +kernel
theorem dX0_takeFrom_155 : decode cX0_takeFrom 155 = .ok (.invokestatic 65, 3) := by decide +kernel
theorem dX0_takeFrom_158 : decode cX0_takeFrom 158 = .ok (.aload_n 0, 1) ∧ 158 + 1 = 159 := ⟨by decide +kernel, rfl⟩
theorem dX0_takeFrom_159 : decode cX0_takeFrom 159 = .ok (.getfield 37, 3) ∧ 159 + 3 = 162 := ⟨by decide +kernel, rfl⟩
theorem dX0_takeFrom_162 : decode cX0_takeFrom 162 = .ok (.iload_n 2, 1) ∧ 162 + 1 = 163 := ⟨by decide +kernel, rfl⟩
theorem dX0_takeFrom_163 : decode cX0_takeFrom 163 = .ok (.aload_n 1, 1) ∧ 163 + 1 = 164 := ⟨by decide +kernel, rfl⟩
theorem dX0_takeFrom_164 : decode cX0_takeFrom 164 = .ok (.getfield 37, 3) ∧ 164 + 3 = 167 := ⟨by decide +kernel, rfl⟩
theorem dX0_takeFrom_167 : decode cX0_takeFrom 167 = .ok (.iload_n 2, 1) ∧ 167 + 1 = 168 := ⟨by decide +kernel, rfl⟩
theorem dX0_takeFrom_168 : decode cX0_takeFrom 168 = .ok (.invokestatic 61, 3) := by decide +kernel
theorem dX0_takeFrom_171 : decode cX0_takeFrom 171 = .ok (.invokestatic 65, 3) := by decide +kernel
theorem dX0_takeFrom_174 : decode cX0_takeFrom 174 = .ok (.iinc 2 1, 3) ∧ 174 + 3 = 177 := ⟨by decide +kernel, rfl⟩
theorem dX0_takeFrom_177 : decode cX0_takeFrom 177 = .ok (.goto (-57), 3) ∧ ((177 : Nat) : Int) + (-57) = ((120 : Nat) : Int) := ⟨by decide +kernel, by decide⟩
theorem dX0_takeFrom_180 : decode cX0_takeFrom 180 = .ok (.return_, 1) := by decide +kernel
def L_X0_takeFrom_120 (k120 : Hp → Int32 → Option (Hp)) (fu : Nat) (o : Nat) (x1 : Option Nat) (S : Hp) (x2 : Int32) : Option (Hp) :=
  if (10 : Int32) ≤ x2 then
    some S
  else
    (gR S (some o) 0 6).bind fun v127 =>
    (gR S x1 0 6).bind fun v132 =>
    b2 (F_X7_at S v132 x2) fun v136 S136 =>
    (F_X7_store S136 v127 x2 v136).bind fun S139 =>
    (gR S139 (some o) 0 7).bind fun v143 =>
    (gR S139 x1 0 7).bind fun v148 =>
    b2 (F_X7_at S139 v148 x2) fun v152 S152 =>
    (F_X7_store S152 v143 x2 v152).bind fun S155 =>
    (gR S155 (some o) 0 8).bind fun v159 =>
    (gR S155 x1 0 8).bind fun v164 =>
    b2 (F_X7_at S155 v164 x2) fun v168 S168 =>
    (F_X7_store S168 v159 x2 v168).bind fun S171 =>
    k120 S171 (x2 + (1 : Int32))
set_option maxRecDepth 100000 in
set_option maxHeartbeats 4000000 in
theorem wl_X0_takeFrom_120 {E : Cx} {l : Launch} {res : Hp} {ad : Nat → Nat} {k120 : Hp → Int32 → Option (Hp)} {fu : Nat} {o : Nat} {S : Hp} {x1 : Option Nat} {x2 : Int32} (K : Kx E cX0_takeFrom RX0 (rmd 1 0 0)) (X : Bx E l yX0_takeFrom 3 none 0 0 ad (QV res)) (hk120 : ∀ (S : Hp) (x2 : Int32), k120 S x2 = some res → J E 0 0 120 [(0, vR (some o)), (1, vR x1), (2, vI x2)] [] S ad) (h : L_X0_takeFrom_120 k120 fu o x1 S x2 = some res) : J E 0 0 120 [(0, vR (some o)), (1, vR x1), (2, vI x2)] [] S ad := by
  refine j_iload_n K dX0_takeFrom_120 rfl 2 rfl ?_
  refine j_bipush (v := (10 : Int32)) K dX0_takeFrom_121 (by decide) ?_
  refine j_icmp_ge K dX0_takeFrom_123 (fun c123 => ?_) (fun c123 => ?_)
  · replace h := it c123 h
    exact j_vret K X dX0_takeFrom_180 h
  · replace h := ie c123 h
    refine j_aload_n K dX0_takeFrom_126 rfl 0 rfl ?_
    obtain ⟨v127, e127, h⟩ := bd h
    refine fgX0_31 K dX0_takeFrom_127 e127 ?_
    refine j_iload_n K dX0_takeFrom_130 rfl 2 rfl ?_
    refine j_aload_n K dX0_takeFrom_131 rfl 1 rfl ?_
    obtain ⟨v132, e132, h⟩ := bd h
    refine fgX0_31 K dX0_takeFrom_132 e132 ?_
    refine j_iload_n K dX0_takeFrom_135 rfl 2 rfl ?_
    obtain ⟨v136, S136, e136, h⟩ := bd2 h
    refine j_cI (st := [vI x2, vR v127]) K (r_SN (vs := [vR v132, vI x2]) (n := 2) (host := RX7) K (c_X7_at e136) dX0_takeFrom_136 (List.mem_of_getElem? (i := 12) rfl) z227 z1 z228 ⟨zd_X7_at, rfl, rfl, rfl, ⟨Nat.le_of_ble_eq_true rfl, Nat.le_of_ble_eq_true rfl⟩, Nat.le_of_ble_eq_true rfl, Nat.le_of_ble_eq_true rfl, Nat.le_of_ble_eq_true rfl⟩) rfl ?_
    obtain ⟨S139, e139, h⟩ := bd h
    refine j_cV (st := []) K (r_SN (vs := [vR v127, vI x2, vI v136]) (n := 3) (host := RX7) K (c_X7_store e139) dX0_takeFrom_139 (List.mem_of_getElem? (i := 10) rfl) z216 z1 z217 ⟨zd_X7_store, rfl, rfl, rfl, ⟨Nat.le_of_ble_eq_true rfl, Nat.le_of_ble_eq_true rfl⟩, Nat.le_of_ble_eq_true rfl, Nat.le_of_ble_eq_true rfl, Nat.le_of_ble_eq_true rfl⟩) rfl ?_
    refine j_aload_n K dX0_takeFrom_142 rfl 0 rfl ?_
    obtain ⟨v143, e143, h⟩ := bd h
    refine fgX0_34 K dX0_takeFrom_143 e143 ?_
    refine j_iload_n K dX0_takeFrom_146 rfl 2 rfl ?_
    refine j_aload_n K dX0_takeFrom_147 rfl 1 rfl ?_
    obtain ⟨v148, e148, h⟩ := bd h
    refine fgX0_34 K dX0_takeFrom_148 e148 ?_
    refine j_iload_n K dX0_takeFrom_151 rfl 2 rfl ?_
    obtain ⟨v152, S152, e152, h⟩ := bd2 h
    refine j_cI (st := [vI x2, vR v143]) K (r_SN (vs := [vR v148, vI x2]) (n := 2) (host := RX7) K (c_X7_at e152) dX0_takeFrom_152 (List.mem_of_getElem? (i := 12) rfl) z227 z1 z228 ⟨zd_X7_at, rfl, rfl, rfl, ⟨Nat.le_of_ble_eq_true rfl, Nat.le_of_ble_eq_true rfl⟩, Nat.le_of_ble_eq_true rfl, Nat.le_of_ble_eq_true rfl, Nat.le_of_ble_eq_true rfl⟩) rfl ?_
    obtain ⟨S155, e155, h⟩ := bd h
    refine j_cV (st := []) K (r_SN (vs := [vR v143, vI x2, vI v152]) (n := 3) (host := RX7) K (c_X7_store e155) dX0_takeFrom_155 (List.mem_of_getElem? (i := 10) rfl) z216 z1 z217 ⟨zd_X7_store, rfl, rfl, rfl, ⟨Nat.le_of_ble_eq_true rfl, Nat.le_of_ble_eq_true rfl⟩, Nat.le_of_ble_eq_true rfl, Nat.le_of_ble_eq_true rfl, Nat.le_of_ble_eq_true rfl⟩) rfl ?_
    refine j_aload_n K dX0_takeFrom_158 rfl 0 rfl ?_
    obtain ⟨v159, e159, h⟩ := bd h
    refine fgX0_37 K dX0_takeFrom_159 e159 ?_
    refine j_iload_n K dX0_takeFrom_162 rfl 2 rfl ?_
    refine j_aload_n K dX0_takeFrom_163 rfl 1 rfl ?_
    obtain ⟨v164, e164, h⟩ := bd h
    refine fgX0_37 K dX0_takeFrom_164 e164 ?_
    refine j_iload_n K dX0_takeFrom_167 rfl 2 rfl ?_
    obtain ⟨v168, S168, e168, h⟩ := bd2 h
    refine j_cI (st := [vI x2, vR v159]) K (r_SN (vs := [vR v164, vI x2]) (n := 2) (host := RX7) K (c_X7_at e168) dX0_takeFrom_168 (List.mem_of_getElem? (i := 12) rfl) z227 z1 z228 ⟨zd_X7_at, rfl, rfl, rfl, ⟨Nat.le_of_ble_eq_true rfl, Nat.le_of_ble_eq_true rfl⟩, Nat.le_of_ble_eq_true rfl, Nat.le_of_ble_eq_true rfl, Nat.le_of_ble_eq_true rfl⟩) rfl ?_
    obtain ⟨S171, e171, h⟩ := bd h
    refine j_cV (st := []) K (r_SN (vs := [vR v159, vI x2, vI v168]) (n := 3) (host := RX7) K (c_X7_store e171) dX0_takeFrom_171 (List.mem_of_getElem? (i := 10) rfl) z216 z1 z217 ⟨zd_X7_store, rfl, rfl, rfl, ⟨Nat.le_of_ble_eq_true rfl, Nat.le_of_ble_eq_true rfl⟩, Nat.le_of_ble_eq_true rfl, Nat.le_of_ble_eq_true rfl, Nat.le_of_ble_eq_true rfl⟩) rfl ?_
    refine j_iinc (q := 2) (v := (x2 + (1 : Int32))) (lv' := [(2, vI (x2 + (1 : Int32))), (0, vR (some o)), (1, vR x1)]) K dX0_takeFrom_174 rfl rfl X.2.2.1 (by decide) rfl ?_
    refine j_goto K dX0_takeFrom_177 ?_
    exact j_sub [1, 2, 0] rfl (hk120 _ _ h)
def B_X0_takeFrom_120 (fu : Nat) (o : Nat) (x1 : Option Nat) : Nat → Hp → Int32 → Option (Hp)
  | 0 => fun _ _ => none
  | n + 1 => L_X0_takeFrom_120 (B_X0_takeFrom_120 fu o x1 n) fu o x1
theorem w_X0_takeFrom_120 {E : Cx} {l : Launch} {res : Hp} {ad : Nat → Nat} {fu : Nat} {o : Nat} {x1 : Option Nat} (K : Kx E cX0_takeFrom RX0 (rmd 1 0 0)) (X : Bx E l yX0_takeFrom 3 none 0 0 ad (QV res)) : ∀ (n : Nat) (S : Hp) (x2 : Int32), B_X0_takeFrom_120 fu o x1 n S x2 = some res → J E 0 0 120 [(0, vR (some o)), (1, vR x1), (2, vI x2)] [] S ad := by
  intro n
  induction n with
  | zero =>
    intro S x2 h
    cases h
  | succ n ih =>
    intro S x2 h
    exact wl_X0_takeFrom_120 K X ih h
def L_X0_takeFrom_42 (k42 : Hp → Int32 → Option (Hp)) (fu : Nat) (o : Nat) (x1 : Option Nat) (S : Hp) (x2 : Int32) : Option (Hp) :=
  if (6 : Int32) ≤ x2 then
    B_X0_takeFrom_120 fu o x1 fu S (0 : Int32)
  else
    (gR S (some o) 0 1).bind fun v49 =>
    (gR S x1 0 1).bind fun v54 =>
    b2 (F_X7_at S v54 x2) fun v58 S58 =>
    (F_X7_store S58 v49 x2 v58).bind fun S61 =>
    (gR S61 (some o) 0 2).bind fun v65 =>
    (gR S61 x1 0 2).bind fun v70 =>
    b2 (F_X7_at S61 v70 x2) fun v74 S74 =>
    (F_X7_store S74 v65 x2 v74).bind fun S77 =>
    (gR S77 (some o) 0 3).bind fun v81 =>
    (gR S77 x1 0 3).bind fun v86 =>
    b2 (F_X7_at S77 v86 x2) fun v90 S90 =>
    (F_X7_store S90 v81 x2 v90).bind fun S93 =>
    (gR S93 (some o) 0 4).bind fun v97 =>
    (gR S93 x1 0 4).bind fun v102 =>
    b2 (F_X7_at S93 v102 x2) fun v106 S106 =>
    (F_X7_store S106 v97 x2 v106).bind fun S109 =>
    k42 S109 (x2 + (1 : Int32))
set_option maxRecDepth 100000 in
set_option maxHeartbeats 4000000 in
theorem wl_X0_takeFrom_42 {E : Cx} {l : Launch} {res : Hp} {ad : Nat → Nat} {k42 : Hp → Int32 → Option (Hp)} {fu : Nat} {o : Nat} {S : Hp} {x1 : Option Nat} {x2 : Int32} (K : Kx E cX0_takeFrom RX0 (rmd 1 0 0)) (X : Bx E l yX0_takeFrom 3 none 0 0 ad (QV res)) (hk42 : ∀ (S : Hp) (x2 : Int32), k42 S x2 = some res → J E 0 0 42 [(0, vR (some o)), (1, vR x1), (2, vI x2)] [] S ad) (h : L_X0_takeFrom_42 k42 fu o x1 S x2 = some res) : J E 0 0 42 [(0, vR (some o)), (1, vR x1), (2, vI x2)] [] S ad := by
  refine j_iload_n K dX0_takeFrom_42 rfl 2 rfl ?_
  refine j_bipush (v := (6 : Int32)) K dX0_takeFrom_43 (by decide) ?_
  refine j_icmp_ge K dX0_takeFrom_45 (fun c45 => ?_) (fun c45 => ?_)
  · replace h := it c45 h
    refine j_iconst (v := (0 : Int32)) K dX0_takeFrom_118 (by decide) ?_
    refine j_istore_n (lv' := [(2, vI (0 : Int32)), (0, vR (some o)), (1, vR x1)]) K dX0_takeFrom_119 rfl X.2.2.1 (by decide) rfl ?_
    exact j_sub [1, 2, 0] rfl (w_X0_takeFrom_120 K X _ _ _ h)
  · replace h := ie c45 h
    refine j_aload_n K dX0_takeFrom_48 rfl 0 rfl ?_
    obtain ⟨v49, e49, h⟩ := bd h
    refine fgX0_15 K dX0_takeFrom_49 e49 ?_
    refine j_iload_n K dX0_takeFrom_52 rfl 2 rfl ?_
    refine j_aload_n K dX0_takeFrom_53 rfl 1 rfl ?_
    obtain ⟨v54, e54, h⟩ := bd h
    refine fgX0_15 K dX0_takeFrom_54 e54 ?_
    refine j_iload_n K dX0_takeFrom_57 rfl 2 rfl ?_
    obtain ⟨v58, S58, e58, h⟩ := bd2 h
    refine j_cI (st := [vI x2, vR v49]) K (r_SN (vs := [vR v54, vI x2]) (n := 2) (host := RX7) K (c_X7_at e58) dX0_takeFrom_58 (List.mem_of_getElem? (i := 12) rfl) z227 z1 z228 ⟨zd_X7_at, rfl, rfl, rfl, ⟨Nat.le_of_ble_eq_true rfl, Nat.le_of_ble_eq_true rfl⟩, Nat.le_of_ble_eq_true rfl, Nat.le_of_ble_eq_true rfl, Nat.le_of_ble_eq_true rfl⟩) rfl ?_
    obtain ⟨S61, e61, h⟩ := bd h
    refine j_cV (st := []) K (r_SN (vs := [vR v49, vI x2, vI v58]) (n := 3) (host := RX7) K (c_X7_store e61) dX0_takeFrom_61 (List.mem_of_getElem? (i := 10) rfl) z216 z1 z217 ⟨zd_X7_store, rfl, rfl, rfl, ⟨Nat.le_of_ble_eq_true rfl, Nat.le_of_ble_eq_true rfl⟩, Nat.le_of_ble_eq_true rfl, Nat.le_of_ble_eq_true rfl, Nat.le_of_ble_eq_true rfl⟩) rfl ?_
    refine j_aload_n K dX0_takeFrom_64 rfl 0 rfl ?_
    obtain ⟨v65, e65, h⟩ := bd h
    refine fgX0_19 K dX0_takeFrom_65 e65 ?_
    refine j_iload_n K dX0_takeFrom_68 rfl 2 rfl ?_
    refine j_aload_n K dX0_takeFrom_69 rfl 1 rfl ?_
    obtain ⟨v70, e70, h⟩ := bd h
    refine fgX0_19 K dX0_takeFrom_70 e70 ?_
    refine j_iload_n K dX0_takeFrom_73 rfl 2 rfl ?_
    obtain ⟨v74, S74, e74, h⟩ := bd2 h
    refine j_cI (st := [vI x2, vR v65]) K (r_SN (vs := [vR v70, vI x2]) (n := 2) (host := RX7) K (c_X7_at e74) dX0_takeFrom_74 (List.mem_of_getElem? (i := 12) rfl) z227 z1 z228 ⟨zd_X7_at, rfl, rfl, rfl, ⟨Nat.le_of_ble_eq_true rfl, Nat.le_of_ble_eq_true rfl⟩, Nat.le_of_ble_eq_true rfl, Nat.le_of_ble_eq_true rfl, Nat.le_of_ble_eq_true rfl⟩) rfl ?_
    obtain ⟨S77, e77, h⟩ := bd h
    refine j_cV (st := []) K (r_SN (vs := [vR v65, vI x2, vI v74]) (n := 3) (host := RX7) K (c_X7_store e77) dX0_takeFrom_77 (List.mem_of_getElem? (i := 10) rfl) z216 z1 z217 ⟨zd_X7_store, rfl, rfl, rfl, ⟨Nat.le_of_ble_eq_true rfl, Nat.le_of_ble_eq_true rfl⟩, Nat.le_of_ble_eq_true rfl, Nat.le_of_ble_eq_true rfl, Nat.le_of_ble_eq_true rfl⟩) rfl ?_
    refine j_aload_n K dX0_takeFrom_80 rfl 0 rfl ?_
    obtain ⟨v81, e81, h⟩ := bd h
    refine fgX0_22 K dX0_takeFrom_81 e81 ?_
    refine j_iload_n K dX0_takeFrom_84 rfl 2 rfl ?_
    refine j_aload_n K dX0_takeFrom_85 rfl 1 rfl ?_
    obtain ⟨v86, e86, h⟩ := bd h
    refine fgX0_22 K dX0_takeFrom_86 e86 ?_
    refine j_iload_n K dX0_takeFrom_89 rfl 2 rfl ?_
    obtain ⟨v90, S90, e90, h⟩ := bd2 h
    refine j_cI (st := [vI x2, vR v81]) K (r_SN (vs := [vR v86, vI x2]) (n := 2) (host := RX7) K (c_X7_at e90) dX0_takeFrom_90 (List.mem_of_getElem? (i := 12) rfl) z227 z1 z228 ⟨zd_X7_at, rfl, rfl, rfl, ⟨Nat.le_of_ble_eq_true rfl, Nat.le_of_ble_eq_true rfl⟩, Nat.le_of_ble_eq_true rfl, Nat.le_of_ble_eq_true rfl, Nat.le_of_ble_eq_true rfl⟩) rfl ?_
    obtain ⟨S93, e93, h⟩ := bd h
    refine j_cV (st := []) K (r_SN (vs := [vR v81, vI x2, vI v90]) (n := 3) (host := RX7) K (c_X7_store e93) dX0_takeFrom_93 (List.mem_of_getElem? (i := 10) rfl) z216 z1 z217 ⟨zd_X7_store, rfl, rfl, rfl, ⟨Nat.le_of_ble_eq_true rfl, Nat.le_of_ble_eq_true rfl⟩, Nat.le_of_ble_eq_true rfl, Nat.le_of_ble_eq_true rfl, Nat.le_of_ble_eq_true rfl⟩) rfl ?_
    refine j_aload_n K dX0_takeFrom_96 rfl 0 rfl ?_
    obtain ⟨v97, e97, h⟩ := bd h
    refine fgX0_25 K dX0_takeFrom_97 e97 ?_
    refine j_iload_n K dX0_takeFrom_100 rfl 2 rfl ?_
    refine j_aload_n K dX0_takeFrom_101 rfl 1 rfl ?_
    obtain ⟨v102, e102, h⟩ := bd h
    refine fgX0_25 K dX0_takeFrom_102 e102 ?_
    refine j_iload_n K dX0_takeFrom_105 rfl 2 rfl ?_
    obtain ⟨v106, S106, e106, h⟩ := bd2 h
    refine j_cI (st := [vI x2, vR v97]) K (r_SN (vs := [vR v102, vI x2]) (n := 2) (host := RX7) K (c_X7_at e106) dX0_takeFrom_106 (List.mem_of_getElem? (i := 12) rfl) z227 z1 z228 ⟨zd_X7_at, rfl, rfl, rfl, ⟨Nat.le_of_ble_eq_true rfl, Nat.le_of_ble_eq_true rfl⟩, Nat.le_of_ble_eq_true rfl, Nat.le_of_ble_eq_true rfl, Nat.le_of_ble_eq_true rfl⟩) rfl ?_
    obtain ⟨S109, e109, h⟩ := bd h
    refine j_cV (st := []) K (r_SN (vs := [vR v97, vI x2, vI v106]) (n := 3) (host := RX7) K (c_X7_store e109) dX0_takeFrom_109 (List.mem_of_getElem? (i := 10) rfl) z216 z1 z217 ⟨zd_X7_store, rfl, rfl, rfl, ⟨Nat.le_of_ble_eq_true rfl, Nat.le_of_ble_eq_true rfl⟩, Nat.le_of_ble_eq_true rfl, Nat.le_of_ble_eq_true rfl, Nat.le_of_ble_eq_true rfl⟩) rfl ?_
    refine j_iinc (q := 2) (v := (x2 + (1 : Int32))) (lv' := [(2, vI (x2 + (1 : Int32))), (0, vR (some o)), (1, vR x1)]) K dX0_takeFrom_112 rfl rfl X.2.2.1 (by decide) rfl ?_
    refine j_goto K dX0_takeFrom_115 ?_
    exact j_sub [1, 2, 0] rfl (hk42 _ _ h)
def B_X0_takeFrom_42 (fu : Nat) (o : Nat) (x1 : Option Nat) : Nat → Hp → Int32 → Option (Hp)
  | 0 => fun _ _ => none
  | n + 1 => L_X0_takeFrom_42 (B_X0_takeFrom_42 fu o x1 n) fu o x1
theorem w_X0_takeFrom_42 {E : Cx} {l : Launch} {res : Hp} {ad : Nat → Nat} {fu : Nat} {o : Nat} {x1 : Option Nat} (K : Kx E cX0_takeFrom RX0 (rmd 1 0 0)) (X : Bx E l yX0_takeFrom 3 none 0 0 ad (QV res)) : ∀ (n : Nat) (S : Hp) (x2 : Int32), B_X0_takeFrom_42 fu o x1 n S x2 = some res → J E 0 0 42 [(0, vR (some o)), (1, vR x1), (2, vI x2)] [] S ad := by
  intro n
  induction n with
  | zero =>
    intro S x2 h
    cases h
  | succ n ih =>
    intro S x2 h
    exact wl_X0_takeFrom_42 K X ih h
def F_X0_takeFrom (fu : Nat) (S : Hp) (o : Nat) (x1 : Option Nat) : Option (Hp) :=
  (gI S x1 0 0).bind fun v2 =>
  (pI S (some o) 0 0 v2).bind fun S5 =>
  (gI S5 x1 0 5).bind fun v10 =>
  (pI S5 (some o) 0 5 v10).bind fun S13 =>
  (gI S13 x1 0 9).bind fun v18 =>
  (pI S13 (some o) 0 9 v18).bind fun S21 =>
  (gI S21 x1 0 10).bind fun v26 =>
  (pI S21 (some o) 0 10 v26).bind fun S29 =>
  (gR S29 x1 0 11).bind fun v34 =>
  (pR S29 (some o) 0 11 v34).bind fun S37 =>
  B_X0_takeFrom_42 fu o x1 fu S37 (0 : Int32)
set_option maxRecDepth 100000 in
set_option maxHeartbeats 4000000 in
theorem w_X0_takeFrom {E : Cx} {l : Launch} {res : Hp} {ad : Nat → Nat} {fu : Nat} {S : Hp} {o : Nat} {x1 : Option Nat} (K : Kx E cX0_takeFrom RX0 (rmd 1 0 0)) (X : Bx E l yX0_takeFrom 3 none 0 0 ad (QV res)) (h : F_X0_takeFrom fu S o x1 = some res) : J E 0 0 0 [(0, vR (some o)), (1, vR x1)] [] S ad := by
  refine j_aload_n K dX0_takeFrom_0 rfl 0 rfl ?_
  refine j_aload_n K dX0_takeFrom_1 rfl 1 rfl ?_
  obtain ⟨v2, e2, h⟩ := bd h
  refine fgX0_9 K dX0_takeFrom_2 e2 ?_
  obtain ⟨S5, e5, h⟩ := bd h
  refine fpX0_9 K dX0_takeFrom_5 e5 ?_
  refine j_aload_n K dX0_takeFrom_8 rfl 0 rfl ?_
  refine j_aload_n K dX0_takeFrom_9 rfl 1 rfl ?_
  obtain ⟨v10, e10, h⟩ := bd h
  refine fgX0_28 K dX0_takeFrom_10 e10 ?_
  obtain ⟨S13, e13, h⟩ := bd h
  refine fpX0_28 K dX0_takeFrom_13 e13 ?_
  refine j_aload_n K dX0_takeFrom_16 rfl 0 rfl ?_
  refine j_aload_n K dX0_takeFrom_17 rfl 1 rfl ?_
  obtain ⟨v18, e18, h⟩ := bd h
  refine fgX0_40 K dX0_takeFrom_18 e18 ?_
  obtain ⟨S21, e21, h⟩ := bd h
  refine fpX0_40 K dX0_takeFrom_21 e21 ?_
  refine j_aload_n K dX0_takeFrom_24 rfl 0 rfl ?_
  refine j_aload_n K dX0_takeFrom_25 rfl 1 rfl ?_
  obtain ⟨v26, e26, h⟩ := bd h
  refine fgX0_43 K dX0_takeFrom_26 e26 ?_
  obtain ⟨S29, e29, h⟩ := bd h
  refine fpX0_43 K dX0_takeFrom_29 e29 ?_
  refine j_aload_n K dX0_takeFrom_32 rfl 0 rfl ?_
  refine j_aload_n K dX0_takeFrom_33 rfl 1 rfl ?_
  obtain ⟨v34, e34, h⟩ := bd h
  refine fgX0_46 K dX0_takeFrom_34 e34 ?_
  obtain ⟨S37, e37, h⟩ := bd h
  refine fpX0_46 K dX0_takeFrom_37 e37 ?_
  refine j_iconst (v := (0 : Int32)) K dX0_takeFrom_40 (by decide) ?_
  refine j_istore_n (lv' := [(2, vI (0 : Int32)), (0, vR (some o)), (1, vR x1)]) K dX0_takeFrom_41 rfl X.2.2.1 (by decide) rfl ?_
  exact j_sub [1, 2, 0] rfl (w_X0_takeFrom_42 K X _ _ _ h)
theorem c_X0_takeFrom {l : Launch} {fu : Nat} {S : Hp} {o : Nat} {x1 : Option Nat} {res : Hp} (h : F_X0_takeFrom fu S o x1 = some res) : Ct l yX0_takeFrom cX0_takeFrom 3 none (rmd 1 0 0) 0 0 [vR (some o), vR x1] S (QV res) :=
  z_entry (by decide +kernel) (Nat.le_of_ble_eq_true rfl) (fun E ad K X => w_X0_takeFrom K X h)

theorem dX7_fits_0 : decode cX7_fits 0 = .ok (.iload_n 0, 1) ∧ 0 + 1 = 1 := ⟨by decide +kernel, rfl⟩
theorem dX7_fits_1 : decode cX7_fits 1 = .ok (.ifCond .lt 12, 3) ∧ 1 + 3 = 4 ∧ ((1 : Nat) : Int) + (12) = ((13 : Nat) : Int) := ⟨by decide +kernel, rfl, by decide⟩
theorem dX7_fits_4 : decode cX7_fits 4 = .ok (.iload_n 0, 1) ∧ 4 + 1 = 5 := ⟨by decide +kernel, rfl⟩
theorem dX7_fits_5 : decode cX7_fits 5 = .ok (.iload_n 1, 1) ∧ 5 + 1 = 6 := ⟨by decide +kernel, rfl⟩
theorem dX7_fits_6 : decode cX7_fits 6 = .ok (.if_icmp .ge 7, 3) ∧ 6 + 3 = 9 ∧ ((6 : Nat) : Int) + (7) = ((13 : Nat) : Int) := ⟨by decide +kernel, rfl, by decide⟩
theorem dX7_fits_9 : decode cX7_fits 9 = .ok (.iconst 1, 1) ∧ 9 + 1 = 10 := ⟨by decide +kernel, rfl⟩
theorem dX7_fits_10 : decode cX7_fits 10 = .ok (.goto 4, 3) ∧ ((10 : Nat) : Int) + (4) = ((14 : Nat) : Int) := ⟨by decide +kernel, by decide⟩
theorem dX7_fits_13 : decode cX7_fits 13 = .ok (.iconst 0, 1) ∧ 13 + 1 = 14 := ⟨by decide +kernel, rfl⟩
theorem dX7_fits_14 : decode cX7_fits 14 = .ok (.ireturn, 1) := by decide +kernel
def B_X7_fits_14 (S : Hp) (s0 : Int32) : Option (Int32 × Hp) :=
  zb s0 S
set_option maxRecDepth 100000 in
set_option maxHeartbeats 4000000 in
theorem w_X7_fits_14 {E : Cx} {l : Launch} {res : Int32 × Hp} {ad : Nat → Nat} {S : Hp} {s0 : Int32} (K : Kx E cX7_fits RX7 (rmd 0 0 0)) (X : Bx E l yX7_fits 2 (some .boolean) 0 0 ad (QI res)) (h : B_X7_fits_14 S s0 = some res) : J E 0 0 14 [] [vI s0] S ad := by
  exact j_zret K X dX7_fits_14 h
def B_X7_fits_13 (S : Hp) : Option (Int32 × Hp) :=
  B_X7_fits_14 S (0 : Int32)
set_option maxRecDepth 100000 in
set_option maxHeartbeats 4000000 in
theorem w_X7_fits_13 {E : Cx} {l : Launch} {res : Int32 × Hp} {ad : Nat → Nat} {S : Hp} (K : Kx E cX7_fits RX7 (rmd 0 0 0)) (X : Bx E l yX7_fits 2 (some .boolean) 0 0 ad (QI res)) (h : B_X7_fits_13 S = some res) : J E 0 0 13 [] [] S ad := by
  refine j_iconst (v := (0 : Int32)) K dX7_fits_13 (by decide) ?_
  exact w_X7_fits_14 K X h
def F_X7_fits (S : Hp) (x0 : Int32) (x1 : Int32) : Option (Int32 × Hp) :=
  if x0 < 0 then
    B_X7_fits_13 S
  else
    if x1 ≤ x0 then
      B_X7_fits_13 S
    else
      B_X7_fits_14 S (1 : Int32)
set_option maxRecDepth 100000 in
set_option maxHeartbeats 4000000 in
theorem w_X7_fits {E : Cx} {l : Launch} {res : Int32 × Hp} {ad : Nat → Nat} {S : Hp} {x0 : Int32} {x1 : Int32} (K : Kx E cX7_fits RX7 (rmd 0 0 0)) (X : Bx E l yX7_fits 2 (some .boolean) 0 0 ad (QI res)) (h : F_X7_fits S x0 x1 = some res) : J E 0 0 0 [(0, vI x0), (1, vI x1)] [] S ad := by
  refine j_iload_n K dX7_fits_0 rfl 0 rfl ?_
  refine j_if_lt K dX7_fits_1 (fun c1 => ?_) (fun c1 => ?_)
  · replace h := it c1 h
    exact j_sub [] rfl (w_X7_fits_13 K X h)
  · replace h := ie c1 h
    refine j_iload_n K dX7_fits_4 rfl 0 rfl ?_
    refine j_iload_n K dX7_fits_5 rfl 1 rfl ?_
    refine j_icmp_ge K dX7_fits_6 (fun c6 => ?_) (fun c6 => ?_)
    · replace h := it c6 h
      exact j_sub [] rfl (w_X7_fits_13 K X h)
    · replace h := ie c6 h
      refine j_iconst (v := (1 : Int32)) K dX7_fits_9 (by decide) ?_
      refine j_goto K dX7_fits_10 ?_
      exact j_sub [] rfl (w_X7_fits_14 K X h)
theorem c_X7_fits {l : Launch} {S : Hp} {x0 : Int32} {x1 : Int32} {res : Int32 × Hp} (h : F_X7_fits S x0 x1 = some res) : Ct l yX7_fits cX7_fits 2 (some .boolean) (rmd 0 0 0) 0 0 [vI x0, vI x1] S (QI res) :=
  z_entry (by decide +kernel) (Nat.le_of_ble_eq_true rfl) (fun E ad K X => w_X7_fits K X h)

theorem dX0_hasPerson_0 : decode cX0_hasPerson 0 = .ok (.iload_n 1, 1) ∧ 0 + 1 = 1 := ⟨by decide +kernel, rfl⟩
theorem dX0_hasPerson_1 : decode cX0_hasPerson 1 = .ok (.aload_n 0, 1) ∧ 1 + 1 = 2 := ⟨by decide +kernel, rfl⟩
theorem dX0_hasPerson_2 : decode cX0_hasPerson 2 = .ok (.getfield 9, 3) ∧ 2 + 3 = 5 := ⟨by decide +kernel, rfl⟩
theorem dX0_hasPerson_5 : decode cX0_hasPerson 5 = .ok (.invokestatic 69, 3) := by decide +kernel
theorem dX0_hasPerson_8 : decode cX0_hasPerson 8 = .ok (.ireturn, 1) := by decide +kernel
def F_X0_hasPerson (S : Hp) (o : Nat) (x1 : Int32) : Option (Int32 × Hp) :=
  (gI S (some o) 0 0).bind fun v2 =>
  b2 (F_X7_fits S x1 v2) fun v5 S5 =>
  zb v5 S5
set_option maxRecDepth 100000 in
set_option maxHeartbeats 4000000 in
theorem w_X0_hasPerson {E : Cx} {l : Launch} {res : Int32 × Hp} {ad : Nat → Nat} {S : Hp} {o : Nat} {x1 : Int32} (K : Kx E cX0_hasPerson RX0 (rmd 1 0 0)) (X : Bx E l yX0_hasPerson 2 (some .boolean) 0 0 ad (QI res)) (h : F_X0_hasPerson S o x1 = some res) : J E 0 0 0 [(0, vR (some o)), (1, vI x1)] [] S ad := by
  refine j_iload_n K dX0_hasPerson_0 rfl 1 rfl ?_
  refine j_aload_n K dX0_hasPerson_1 rfl 0 rfl ?_
  obtain ⟨v2, e2, h⟩ := bd h
  refine fgX0_9 K dX0_hasPerson_2 e2 ?_
  obtain ⟨v5, S5, e5, h⟩ := bd2 h
  refine j_cI (st := []) K (r_SN (vs := [vI x1, vI v2]) (n := 2) (host := RX7) K (c_X7_fits e5) dX0_hasPerson_5 (List.mem_of_getElem? (i := 11) rfl) z425 z1 z426 ⟨zd_X7_fits, rfl, rfl, rfl, ⟨Nat.le_of_ble_eq_true rfl, Nat.le_of_ble_eq_true rfl⟩, Nat.le_of_ble_eq_true rfl, Nat.le_of_ble_eq_true rfl, Nat.le_of_ble_eq_true rfl⟩) rfl ?_
  exact j_zret K X dX0_hasPerson_8 h
theorem c_X0_hasPerson {l : Launch} {S : Hp} {o : Nat} {x1 : Int32} {res : Int32 × Hp} (h : F_X0_hasPerson S o x1 = some res) : Ct l yX0_hasPerson cX0_hasPerson 2 (some .boolean) (rmd 1 0 0) 0 0 [vR (some o), vI x1] S (QI res) :=
  z_entry (by decide +kernel) (Nat.le_of_ble_eq_true rfl) (fun E ad K X => w_X0_hasPerson K X h)

theorem dX0_hasWrong_0 : decode cX0_hasWrong 0 = .ok (.iload_n 1, 1) ∧ 0 + 1 = 1 := ⟨by decide +kernel, rfl⟩
theorem dX0_hasWrong_1 : decode cX0_hasWrong 1 = .ok (.aload_n 0, 1) ∧ 1 + 1 = 2 := ⟨by decide +kernel, rfl⟩
theorem dX0_hasWrong_2 : decode cX0_hasWrong 2 = .ok (.getfield 28, 3) ∧ 2 + 3 = 5 := ⟨by decide +kernel, rfl⟩
theorem dX0_hasWrong_5 : decode cX0_hasWrong 5 = .ok (.invokestatic 69, 3) := by decide +kernel
theorem dX0_hasWrong_8 : decode cX0_hasWrong 8 = .ok (.ireturn, 1) := by decide +kernel
def F_X0_hasWrong (S : Hp) (o : Nat) (x1 : Int32) : Option (Int32 × Hp) :=
  (gI S (some o) 0 5).bind fun v2 =>
  b2 (F_X7_fits S x1 v2) fun v5 S5 =>
  zb v5 S5
set_option maxRecDepth 100000 in
set_option maxHeartbeats 4000000 in
theorem w_X0_hasWrong {E : Cx} {l : Launch} {res : Int32 × Hp} {ad : Nat → Nat} {S : Hp} {o : Nat} {x1 : Int32} (K : Kx E cX0_hasWrong RX0 (rmd 1 0 0)) (X : Bx E l yX0_hasWrong 2 (some .boolean) 0 0 ad (QI res)) (h : F_X0_hasWrong S o x1 = some res) : J E 0 0 0 [(0, vR (some o)), (1, vI x1)] [] S ad := by
  refine j_iload_n K dX0_hasWrong_0 rfl 1 rfl ?_
  refine j_aload_n K dX0_hasWrong_1 rfl 0 rfl ?_
  obtain ⟨v2, e2, h⟩ := bd h
  refine fgX0_28 K dX0_hasWrong_2 e2 ?_
  obtain ⟨v5, S5, e5, h⟩ := bd2 h
  refine j_cI (st := []) K (r_SN (vs := [vI x1, vI v2]) (n := 2) (host := RX7) K (c_X7_fits e5) dX0_hasWrong_5 (List.mem_of_getElem? (i := 11) rfl) z425 z1 z426 ⟨zd_X7_fits, rfl, rfl, rfl, ⟨Nat.le_of_ble_eq_true rfl, Nat.le_of_ble_eq_true rfl⟩, Nat.le_of_ble_eq_true rfl, Nat.le_of_ble_eq_true rfl, Nat.le_of_ble_eq_true rfl⟩) rfl ?_
  exact j_zret K X dX0_hasWrong_8 h
theorem c_X0_hasWrong {l : Launch} {S : Hp} {o : Nat} {x1 : Int32} {res : Int32 × Hp} (h : F_X0_hasWrong S o x1 = some res) : Ct l yX0_hasWrong cX0_hasWrong 2 (some .boolean) (rmd 1 0 0) 0 0 [vR (some o), vI x1] S (QI res) :=
  z_entry (by decide +kernel) (Nat.le_of_ble_eq_true rfl) (fun E ad K X => w_X0_hasWrong K X h)

theorem dX0_rule_0 : decode cX0_rule 0 = .ok (.aload_n 0, 1) ∧ 0 + 1 = 1 := ⟨by decide +kernel, rfl⟩
theorem dX0_rule_1 : decode cX0_rule 1 = .ok (.iload_n 1, 1) ∧ 1 + 1 = 2 := ⟨by decide +kernel, rfl⟩
theorem dX0_rule_2 : decode cX0_rule 2 = .ok (.putfield 43, 3) ∧ 2 + 3 = 5 := ⟨by decide +kernel, rfl⟩
theorem dX0_rule_5 : decode cX0_rule 5 = .ok (.aload_n 0, 1) ∧ 5 + 1 = 6 := ⟨by decide +kernel, rfl⟩
theorem dX0_rule_6 : decode cX0_rule 6 = .ok (.aload_n 2, 1) ∧ 6 + 1 = 7 := ⟨by decide +kernel, rfl⟩
theorem dX0_rule_7 : decode cX0_rule 7 = .ok (.putfield 46, 3) ∧ 7 + 3 = 10 := ⟨by decide +kernel, rfl⟩
theorem dX0_rule_10 : decode cX0_rule 10 = .ok (.return_, 1) := by decide +kernel
def F_X0_rule (S : Hp) (o : Nat) (x1 : Int32) (x2 : Option Nat) : Option (Hp) :=
  (pI S (some o) 0 10 x1).bind fun S2 =>
  (pR S2 (some o) 0 11 x2).bind fun S7 =>
  some S7
set_option maxRecDepth 100000 in
set_option maxHeartbeats 4000000 in
theorem w_X0_rule {E : Cx} {l : Launch} {res : Hp} {ad : Nat → Nat} {S : Hp} {o : Nat} {x1 : Int32} {x2 : Option Nat} (K : Kx E cX0_rule RX0 (rmd 0 0 0)) (X : Bx E l yX0_rule 3 none 0 0 ad (QV res)) (h : F_X0_rule S o x1 x2 = some res) : J E 0 0 0 [(0, vR (some o)), (1, vI x1), (2, vR x2)] [] S ad := by
  refine j_aload_n K dX0_rule_0 rfl 0 rfl ?_
  refine j_iload_n K dX0_rule_1 rfl 1 rfl ?_
  obtain ⟨S2, e2, h⟩ := bd h
  refine fpX0_43 K dX0_rule_2 e2 ?_
  refine j_aload_n K dX0_rule_5 rfl 0 rfl ?_
  refine j_aload_n K dX0_rule_6 rfl 2 rfl ?_
  obtain ⟨S7, e7, h⟩ := bd h
  refine fpX0_46 K dX0_rule_7 e7 ?_
  exact j_vret K X dX0_rule_10 h
theorem c_X0_rule {l : Launch} {S : Hp} {o : Nat} {x1 : Int32} {x2 : Option Nat} {res : Hp} (h : F_X0_rule S o x1 x2 = some res) : Ct l yX0_rule cX0_rule 3 none (rmd 0 0 0) 0 0 [vR (some o), vI x1, vR x2] S (QV res) :=
  z_entry (by decide +kernel) (Nat.le_of_ble_eq_true rfl) (fun E ad K X => w_X0_rule K X h)

theorem dX0_welcome_0 : decode cX0_welcome 0 = .ok (.aload_n 0, 1) ∧ 0 + 1 = 1 := ⟨by decide +kernel, rfl⟩
theorem dX0_welcome_1 : decode cX0_welcome 1 = .ok (.getfield 9, 3) ∧ 1 + 3 = 4 := ⟨by decide +kernel, rfl⟩
theorem dX0_welcome_4 : decode cX0_welcome 4 = .ok (.bipush 6, 2) ∧ 4 + 2 = 6 := ⟨by decide +kernel, rfl⟩
theorem dX0_welcome_6 : decode cX0_welcome 6 = .ok (.if_icmp .lt 5, 3) ∧ 6 + 3 = 9 ∧ ((6 : Nat) : Int) + (5) = ((11 : Nat) : Int) := ⟨by decide +kernel, rfl, by decide⟩
theorem dX0_welcome_9 : decode cX0_welcome 9 = .ok (.iconst 0, 1) ∧ 9 + 1 = 10 := ⟨by decide +kernel, rfl⟩
theorem dX0_welcome_10 : decode cX0_welcome 10 = .ok (.ireturn, 1) := by decide +kernel
theorem dX0_welcome_11 : decode cX0_welcome 11 = .ok (.aload_n 0, 1) ∧ 11 + 1 = 12 := ⟨by decide +kernel, rfl⟩
theorem dX0_welcome_12 : decode cX0_welcome 12 = .ok (.getfield 15, 3) ∧ 12 + 3 = 15 := ⟨by decide +kernel, rfl⟩
theorem dX0_welcome_15 : decode cX0_welcome 15 = .ok (.aload_n 0, 1) ∧ 15 + 1 = 16 := ⟨by decide +kernel, rfl⟩
theorem dX0_welcome_16 : decode cX0_welcome 16 = .ok (.getfield 9, 3) ∧ 16 + 3 = 19 := ⟨by decide +kernel, rfl⟩
theorem dX0_welcome_19 : decode cX0_welcome 19 = .ok (.iload_n 1, 1) ∧ 19 + 1 = 20 := ⟨by decide +kernel, rfl⟩
theorem dX0_welcome_20 : decode cX0_welcome 20 = .ok (.invokestatic 65, 3) := by decide +kernel
theorem dX0_welcome_23 : decode cX0_welcome 23 = .ok (.aload_n 0, 1) ∧ 23 + 1 = 24 := ⟨by decide +kernel, rfl⟩
theorem dX0_welcome_24 : decode cX0_welcome 24 = .ok (.getfield 19, 3) ∧ 24 + 3 = 27 := ⟨by decide +kernel, rfl⟩
theorem dX0_welcome_27 : decode cX0_welcome 27 = .ok (.aload_n 0, 1) ∧ 27 + 1 = 28 := ⟨by decide +kernel, rfl⟩
theorem dX0_welcome_28 : decode cX0_welcome 28 = .ok (.getfield 9, 3) ∧ 28 + 3 = 31 := ⟨by decide +kernel, rfl⟩
theorem dX0_welcome_31 : decode cX0_welcome 31 = .ok (.iload_n 2, 1) ∧ 31 + 1 = 32 := ⟨by decide +kernel, rfl⟩
theorem dX0_welcome_32 : decode cX0_welcome 32 = .ok (.invokestatic 65, 3) := by decide +kernel
theorem dX0_welcome_35 : decode cX0_welcome 35 = .ok (.aload_n 0, 1) ∧ 35 + 1 = 36 := ⟨by decide +kernel, rfl⟩
theorem dX0_welcome_36 : decode cX0_welcome 36 = .ok (.getfield 22, 3) ∧ 36 + 3 = 39 := ⟨by decide +kernel, rfl⟩
theorem dX0_welcome_39 : decode cX0_welcome 39 = .ok (.aload_n 0, 1) ∧ 39 + 1 = 40 := ⟨by decide +kernel, rfl⟩
theorem dX0_welcome_40 : decode cX0_welcome 40 = .ok (.getfield 9, 3) ∧ 40 + 3 = 43 := ⟨by decide +kernel, rfl⟩
theorem dX0_welcome_43 : decode cX0_welcome 43 = .ok (.iload_n 3, 1) ∧ 43 + 1 = 44 := ⟨by decide +kernel, rfl⟩
theorem dX0_welcome_44 : decode cX0_welcome 44 = .ok (.invokestatic 65, 3) := by decide +kernel
theorem dX0_welcome_47 : decode cX0_welcome 47 = .ok (.aload_n 0, 1) ∧ 47 + 1 = 48 := ⟨by decide +kernel, rfl⟩
theorem dX0_welcome_48 : decode cX0_welcome 48 = .ok (.getfield 25, 3) ∧ 48 + 3 = 51 := ⟨by decide +kernel, rfl⟩
theorem dX0_welcome_51 : decode cX0_welcome 51 = .ok (.aload_n 0, 1) ∧ 51 + 1 = 52 := ⟨by decide +kernel, rfl⟩
theorem dX0_welcome_52 : decode cX0_welcome 52 = .ok (.getfield 9, 3) ∧ 52 + 3 = 55 := ⟨by decide +kernel, rfl⟩
theorem dX0_welcome_55 : decode cX0_welcome 55 = .ok (.sipush 500, 3) ∧ 55 + 3 = 58 := ⟨by decide +kernel, rfl⟩
theorem dX0_welcome_58 : decode cX0_welcome 58 = .ok (.invokestatic 65, 3) := by decide +kernel
theorem dX0_welcome_61 : decode cX0_welcome 61 = .ok (.aload_n 0, 1) ∧ 61 + 1 = 62 := ⟨by decide +kernel, rfl⟩
theorem dX0_welcome_62 : decode cX0_welcome 62 = .ok (.dup, 1) ∧ 62 + 1 = 63 := ⟨by decide +kernel, rfl⟩
theorem dX0_welcome_63 : decode cX0_welcome 63 = .ok (.getfield 9, 3) ∧ 63 + 3 = 66 := ⟨by decide +kernel, rfl⟩
theorem dX0_welcome_66 : decode cX0_welcome 66 = .ok (.iconst 1, 1) ∧ 66 + 1 = 67 := ⟨by decide +kernel, rfl⟩
theorem dX0_welcome_67 : decode cX0_welcome 67 = .ok (.iadd, 1) ∧ 67 + 1 = 68 := ⟨by decide +kernel, rfl⟩
theorem dX0_welcome_68 : decode cX0_welcome 68 = .ok (.putfield 9, 3) ∧ 68 + 3 = 71 := ⟨by decide +kernel, rfl⟩
theorem dX0_welcome_71 : decode cX0_welcome 71 = .ok (.iconst 1, 1) ∧ 71 + 1 = 72 := ⟨by decide +kernel, rfl⟩
theorem dX0_welcome_72 : decode cX0_welcome 72 = .ok (.ireturn, 1) := by decide +kernel
def F_X0_welcome (S : Hp) (o : Nat) (x1 : Int32) (x2 : Int32) (x3 : Int32) : Option (Int32 × Hp) :=
  (gI S (some o) 0 0).bind fun v1 =>
  if v1 < (6 : Int32) then
    (gR S (some o) 0 1).bind fun v12 =>
    (gI S (some o) 0 0).bind fun v16 =>
    (F_X7_store S v12 v16 x1).bind fun S20 =>
    (gR S20 (some o) 0 2).bind fun v24 =>
    (gI S20 (some o) 0 0).bind fun v28 =>
    (F_X7_store S20 v24 v28 x2).bind fun S32 =>
    (gR S32 (some o) 0 3).bind fun v36 =>
    (gI S32 (some o) 0 0).bind fun v40 =>
    (F_X7_store S32 v36 v40 x3).bind fun S44 =>
    (gR S44 (some o) 0 4).bind fun v48 =>
    (gI S44 (some o) 0 0).bind fun v52 =>
    (F_X7_store S44 v48 v52 (500 : Int32)).bind fun S58 =>
    (gI S58 (some o) 0 0).bind fun v63 =>
    (pI S58 (some o) 0 0 (v63 + (1 : Int32))).bind fun S68 =>
    zb (1 : Int32) S68
  else
    zb (0 : Int32) S
set_option maxRecDepth 100000 in
set_option maxHeartbeats 4000000 in
theorem w_X0_welcome {E : Cx} {l : Launch} {res : Int32 × Hp} {ad : Nat → Nat} {S : Hp} {o : Nat} {x1 : Int32} {x2 : Int32} {x3 : Int32} (K : Kx E cX0_welcome RX0 (rmd 1 0 0)) (X : Bx E l yX0_welcome 4 (some .boolean) 0 0 ad (QI res)) (h : F_X0_welcome S o x1 x2 x3 = some res) : J E 0 0 0 [(0, vR (some o)), (1, vI x1), (2, vI x2), (3, vI x3)] [] S ad := by
  refine j_aload_n K dX0_welcome_0 rfl 0 rfl ?_
  obtain ⟨v1, e1, h⟩ := bd h
  refine fgX0_9 K dX0_welcome_1 e1 ?_
  refine j_bipush (v := (6 : Int32)) K dX0_welcome_4 (by decide) ?_
  refine j_icmp_lt K dX0_welcome_6 (fun c6 => ?_) (fun c6 => ?_)
  · replace h := it c6 h
    refine j_aload_n K dX0_welcome_11 rfl 0 rfl ?_
    obtain ⟨v12, e12, h⟩ := bd h
    refine fgX0_15 K dX0_welcome_12 e12 ?_
    refine j_aload_n K dX0_welcome_15 rfl 0 rfl ?_
    obtain ⟨v16, e16, h⟩ := bd h
    refine fgX0_9 K dX0_welcome_16 e16 ?_
    refine j_iload_n K dX0_welcome_19 rfl 1 rfl ?_
    obtain ⟨S20, e20, h⟩ := bd h
    refine j_cV (st := []) K (r_SN (vs := [vR v12, vI v16, vI x1]) (n := 3) (host := RX7) K (c_X7_store e20) dX0_welcome_20 (List.mem_of_getElem? (i := 10) rfl) z216 z1 z217 ⟨zd_X7_store, rfl, rfl, rfl, ⟨Nat.le_of_ble_eq_true rfl, Nat.le_of_ble_eq_true rfl⟩, Nat.le_of_ble_eq_true rfl, Nat.le_of_ble_eq_true rfl, Nat.le_of_ble_eq_true rfl⟩) rfl ?_
    refine j_aload_n K dX0_welcome_23 rfl 0 rfl ?_
    obtain ⟨v24, e24, h⟩ := bd h
    refine fgX0_19 K dX0_welcome_24 e24 ?_
    refine j_aload_n K dX0_welcome_27 rfl 0 rfl ?_
    obtain ⟨v28, e28, h⟩ := bd h
    refine fgX0_9 K dX0_welcome_28 e28 ?_
    refine j_iload_n K dX0_welcome_31 rfl 2 rfl ?_
    obtain ⟨S32, e32, h⟩ := bd h
    refine j_cV (st := []) K (r_SN (vs := [vR v24, vI v28, vI x2]) (n := 3) (host := RX7) K (c_X7_store e32) dX0_welcome_32 (List.mem_of_getElem? (i := 10) rfl) z216 z1 z217 ⟨zd_X7_store, rfl, rfl, rfl, ⟨Nat.le_of_ble_eq_true rfl, Nat.le_of_ble_eq_true rfl⟩, Nat.le_of_ble_eq_true rfl, Nat.le_of_ble_eq_true rfl, Nat.le_of_ble_eq_true rfl⟩) rfl ?_
    refine j_aload_n K dX0_welcome_35 rfl 0 rfl ?_
    obtain ⟨v36, e36, h⟩ := bd h
    refine fgX0_22 K dX0_welcome_36 e36 ?_
    refine j_aload_n K dX0_welcome_39 rfl 0 rfl ?_
    obtain ⟨v40, e40, h⟩ := bd h
    refine fgX0_9 K dX0_welcome_40 e40 ?_
    refine j_iload_n K dX0_welcome_43 rfl 3 rfl ?_
    obtain ⟨S44, e44, h⟩ := bd h
    refine j_cV (st := []) K (r_SN (vs := [vR v36, vI v40, vI x3]) (n := 3) (host := RX7) K (c_X7_store e44) dX0_welcome_44 (List.mem_of_getElem? (i := 10) rfl) z216 z1 z217 ⟨zd_X7_store, rfl, rfl, rfl, ⟨Nat.le_of_ble_eq_true rfl, Nat.le_of_ble_eq_true rfl⟩, Nat.le_of_ble_eq_true rfl, Nat.le_of_ble_eq_true rfl, Nat.le_of_ble_eq_true rfl⟩) rfl ?_
    refine j_aload_n K dX0_welcome_47 rfl 0 rfl ?_
    obtain ⟨v48, e48, h⟩ := bd h
    refine fgX0_25 K dX0_welcome_48 e48 ?_
    refine j_aload_n K dX0_welcome_51 rfl 0 rfl ?_
    obtain ⟨v52, e52, h⟩ := bd h
    refine fgX0_9 K dX0_welcome_52 e52 ?_
    refine j_sipush (v := (500 : Int32)) K dX0_welcome_55 (by decide) ?_
    obtain ⟨S58, e58, h⟩ := bd h
    refine j_cV (st := []) K (r_SN (vs := [vR v48, vI v52, vI (500 : Int32)]) (n := 3) (host := RX7) K (c_X7_store e58) dX0_welcome_58 (List.mem_of_getElem? (i := 10) rfl) z216 z1 z217 ⟨zd_X7_store, rfl, rfl, rfl, ⟨Nat.le_of_ble_eq_true rfl, Nat.le_of_ble_eq_true rfl⟩, Nat.le_of_ble_eq_true rfl, Nat.le_of_ble_eq_true rfl, Nat.le_of_ble_eq_true rfl⟩) rfl ?_
    refine j_aload_n K dX0_welcome_61 rfl 0 rfl ?_
    refine j_dup K dX0_welcome_62 rfl ?_
    obtain ⟨v63, e63, h⟩ := bd h
    refine fgX0_9 K dX0_welcome_63 e63 ?_
    refine j_iconst (v := (1 : Int32)) K dX0_welcome_66 (by decide) ?_
    refine j_iadd K dX0_welcome_67 ?_
    obtain ⟨S68, e68, h⟩ := bd h
    refine fpX0_9 K dX0_welcome_68 e68 ?_
    refine j_iconst (v := (1 : Int32)) K dX0_welcome_71 (by decide) ?_
    exact j_zret K X dX0_welcome_72 h
  · replace h := ie c6 h
    refine j_iconst (v := (0 : Int32)) K dX0_welcome_9 (by decide) ?_
    exact j_zret K X dX0_welcome_10 h
theorem c_X0_welcome {l : Launch} {S : Hp} {o : Nat} {x1 : Int32} {x2 : Int32} {x3 : Int32} {res : Int32 × Hp} (h : F_X0_welcome S o x1 x2 x3 = some res) : Ct l yX0_welcome cX0_welcome 4 (some .boolean) (rmd 1 0 0) 0 0 [vR (some o), vI x1, vI x2, vI x3] S (QI res) :=
  z_entry (by decide +kernel) (Nat.le_of_ble_eq_true rfl) (fun E ad K X => w_X0_welcome K X h)

theorem dX0_add_0 : decode cX0_add 0 = .ok (.aload_n 0, 1) ∧ 0 + 1 = 1 := ⟨by decide +kernel, rfl⟩
theorem dX0_add_1 : decode cX0_add 1 = .ok (.getfield 28, 3) ∧ 1 + 3 = 4 := ⟨by decide +kernel, rfl⟩
theorem dX0_add_4 : decode cX0_add 4 = .ok (.bipush 10, 2) ∧ 4 + 2 = 6 := ⟨by decide +kernel, rfl⟩
theorem dX0_add_6 : decode cX0_add 6 = .ok (.if_icmp .lt 5, 3) ∧ 6 + 3 = 9 ∧ ((6 : Nat) : Int) + (5) = ((11 : Nat) : Int) := ⟨by decide +kernel, rfl, by decide⟩
theorem dX0_add_9 : decode cX0_add 9 = .ok (.iconst 0, 1) ∧ 9 + 1 = 10 := ⟨by decide +kernel, rfl⟩
theorem dX0_add_10 : decode cX0_add 10 = .ok (.ireturn, 1) := by decide +kernel
theorem dX0_add_11 : decode cX0_add 11 = .ok (.aload_n 0, 1) ∧ 11 + 1 = 12 := ⟨by decide +kernel, rfl⟩
theorem dX0_add_12 : decode cX0_add 12 = .ok (.getfield 31, 3) ∧ 12 + 3 = 15 := ⟨by decide +kernel, rfl⟩
theorem dX0_add_15 : decode cX0_add 15 = .ok (.aload_n 0, 1) ∧ 15 + 1 = 16 := ⟨by decide +kernel, rfl⟩
theorem dX0_add_16 : decode cX0_add 16 = .ok (.getfield 28, 3) ∧ 16 + 3 = 19 := ⟨by decide +kernel, rfl⟩
theorem dX0_add_19 : decode cX0_add 19 = .ok (.iload_n 1, 1) ∧ 19 + 1 = 20 := ⟨by decide +kernel, rfl⟩
theorem dX0_add_20 : decode cX0_add 20 = .ok (.invokestatic 65, 3) := by decide +kernel
theorem dX0_add_23 : decode cX0_add 23 = .ok (.aload_n 0, 1) ∧ 23 + 1 = 24 := ⟨by decide +kernel, rfl⟩
theorem dX0_add_24 : decode cX0_add 24 = .ok (.getfield 34, 3) ∧ 24 + 3 = 27 := ⟨by decide +kernel, rfl⟩
theorem dX0_add_27 : decode cX0_add 27 = .ok (.aload_n 0, 1) ∧ 27 + 1 = 28 := ⟨by decide +kernel, rfl⟩
theorem dX0_add_28 : decode cX0_add 28 = .ok (.getfield 28, 3) ∧ 28 + 3 = 31 := ⟨by decide +kernel, rfl⟩
theorem dX0_add_31 : decode cX0_add 31 = .ok (.iload_n 2, 1) ∧ 31 + 1 = 32 := ⟨by decide +kernel, rfl⟩
theorem dX0_add_32 : decode cX0_add 32 = .ok (.invokestatic 65, 3) := by decide +kernel
theorem dX0_add_35 : decode cX0_add 35 = .ok (.aload_n 0, 1) ∧ 35 + 1 = 36 := ⟨by decide +kernel, rfl⟩
theorem dX0_add_36 : decode cX0_add 36 = .ok (.getfield 37, 3) ∧ 36 + 3 = 39 := ⟨by decide +kernel, rfl⟩
theorem dX0_add_39 : decode cX0_add 39 = .ok (.aload_n 0, 1) ∧ 39 + 1 = 40 := ⟨by decide +kernel, rfl⟩
theorem dX0_add_40 : decode cX0_add 40 = .ok (.getfield 28, 3) ∧ 40 + 3 = 43 := ⟨by decide +kernel, rfl⟩
theorem dX0_add_43 : decode cX0_add 43 = .ok (.iload_n 3, 1) ∧ 43 + 1 = 44 := ⟨by decide +kernel, rfl⟩
theorem dX0_add_44 : decode cX0_add 44 = .ok (.invokestatic 65, 3) := by decide +kernel
theorem dX0_add_47 : decode cX0_add 47 = .ok (.aload_n 0, 1) ∧ 47 + 1 = 48 := ⟨by decide +kernel, rfl⟩
theorem dX0_add_48 : decode cX0_add 48 = .ok (.dup, 1) ∧ 48 + 1 = 49 := ⟨by decide +kernel, rfl⟩
theorem dX0_add_49 : decode cX0_add 49 = .ok (.getfield 28, 3) ∧ 49 + 3 = 52 := ⟨by decide +kernel, rfl⟩
theorem dX0_add_52 : decode cX0_add 52 = .ok (.iconst 1, 1) ∧ 52 + 1 = 53 := ⟨by decide +kernel, rfl⟩
theorem dX0_add_53 : decode cX0_add 53 = .ok (.iadd, 1) ∧ 53 + 1 = 54 := ⟨by decide +kernel, rfl⟩
theorem dX0_add_54 : decode cX0_add 54 = .ok (.putfield 28, 3) ∧ 54 + 3 = 57 := ⟨by decide +kernel, rfl⟩
theorem dX0_add_57 : decode cX0_add 57 = .ok (.iconst 1, 1) ∧ 57 + 1 = 58 := ⟨by decide +kernel, rfl⟩
theorem dX0_add_58 : decode cX0_add 58 = .ok (.ireturn, 1) := by decide +kernel
def F_X0_add (S : Hp) (o : Nat) (x1 : Int32) (x2 : Int32) (x3 : Int32) : Option (Int32 × Hp) :=
  (gI S (some o) 0 5).bind fun v1 =>
  if v1 < (10 : Int32) then
    (gR S (some o) 0 6).bind fun v12 =>
    (gI S (some o) 0 5).bind fun v16 =>
    (F_X7_store S v12 v16 x1).bind fun S20 =>
    (gR S20 (some o) 0 7).bind fun v24 =>
    (gI S20 (some o) 0 5).bind fun v28 =>
    (F_X7_store S20 v24 v28 x2).bind fun S32 =>
    (gR S32 (some o) 0 8).bind fun v36 =>
    (gI S32 (some o) 0 5).bind fun v40 =>
    (F_X7_store S32 v36 v40 x3).bind fun S44 =>
    (gI S44 (some o) 0 5).bind fun v49 =>
    (pI S44 (some o) 0 5 (v49 + (1 : Int32))).bind fun S54 =>
    zb (1 : Int32) S54
  else
    zb (0 : Int32) S
set_option maxRecDepth 100000 in
set_option maxHeartbeats 4000000 in
theorem w_X0_add {E : Cx} {l : Launch} {res : Int32 × Hp} {ad : Nat → Nat} {S : Hp} {o : Nat} {x1 : Int32} {x2 : Int32} {x3 : Int32} (K : Kx E cX0_add RX0 (rmd 1 0 0)) (X : Bx E l yX0_add 4 (some .boolean) 0 0 ad (QI res)) (h : F_X0_add S o x1 x2 x3 = some res) : J E 0 0 0 [(0, vR (some o)), (1, vI x1), (2, vI x2), (3, vI x3)] [] S ad := by
  refine j_aload_n K dX0_add_0 rfl 0 rfl ?_
  obtain ⟨v1, e1, h⟩ := bd h
  refine fgX0_28 K dX0_add_1 e1 ?_
  refine j_bipush (v := (10 : Int32)) K dX0_add_4 (by decide) ?_
  refine j_icmp_lt K dX0_add_6 (fun c6 => ?_) (fun c6 => ?_)
  · replace h := it c6 h
    refine j_aload_n K dX0_add_11 rfl 0 rfl ?_
    obtain ⟨v12, e12, h⟩ := bd h
    refine fgX0_31 K dX0_add_12 e12 ?_
    refine j_aload_n K dX0_add_15 rfl 0 rfl ?_
    obtain ⟨v16, e16, h⟩ := bd h
    refine fgX0_28 K dX0_add_16 e16 ?_
    refine j_iload_n K dX0_add_19 rfl 1 rfl ?_
    obtain ⟨S20, e20, h⟩ := bd h
    refine j_cV (st := []) K (r_SN (vs := [vR v12, vI v16, vI x1]) (n := 3) (host := RX7) K (c_X7_store e20) dX0_add_20 (List.mem_of_getElem? (i := 10) rfl) z216 z1 z217 ⟨zd_X7_store, rfl, rfl, rfl, ⟨Nat.le_of_ble_eq_true rfl, Nat.le_of_ble_eq_true rfl⟩, Nat.le_of_ble_eq_true rfl, Nat.le_of_ble_eq_true rfl, Nat.le_of_ble_eq_true rfl⟩) rfl ?_
    refine j_aload_n K dX0_add_23 rfl 0 rfl ?_
    obtain ⟨v24, e24, h⟩ := bd h
    refine fgX0_34 K dX0_add_24 e24 ?_
    refine j_aload_n K dX0_add_27 rfl 0 rfl ?_
    obtain ⟨v28, e28, h⟩ := bd h
    refine fgX0_28 K dX0_add_28 e28 ?_
    refine j_iload_n K dX0_add_31 rfl 2 rfl ?_
    obtain ⟨S32, e32, h⟩ := bd h
    refine j_cV (st := []) K (r_SN (vs := [vR v24, vI v28, vI x2]) (n := 3) (host := RX7) K (c_X7_store e32) dX0_add_32 (List.mem_of_getElem? (i := 10) rfl) z216 z1 z217 ⟨zd_X7_store, rfl, rfl, rfl, ⟨Nat.le_of_ble_eq_true rfl, Nat.le_of_ble_eq_true rfl⟩, Nat.le_of_ble_eq_true rfl, Nat.le_of_ble_eq_true rfl, Nat.le_of_ble_eq_true rfl⟩) rfl ?_
    refine j_aload_n K dX0_add_35 rfl 0 rfl ?_
    obtain ⟨v36, e36, h⟩ := bd h
    refine fgX0_37 K dX0_add_36 e36 ?_
    refine j_aload_n K dX0_add_39 rfl 0 rfl ?_
    obtain ⟨v40, e40, h⟩ := bd h
    refine fgX0_28 K dX0_add_40 e40 ?_
    refine j_iload_n K dX0_add_43 rfl 3 rfl ?_
    obtain ⟨S44, e44, h⟩ := bd h
    refine j_cV (st := []) K (r_SN (vs := [vR v36, vI v40, vI x3]) (n := 3) (host := RX7) K (c_X7_store e44) dX0_add_44 (List.mem_of_getElem? (i := 10) rfl) z216 z1 z217 ⟨zd_X7_store, rfl, rfl, rfl, ⟨Nat.le_of_ble_eq_true rfl, Nat.le_of_ble_eq_true rfl⟩, Nat.le_of_ble_eq_true rfl, Nat.le_of_ble_eq_true rfl, Nat.le_of_ble_eq_true rfl⟩) rfl ?_
    refine j_aload_n K dX0_add_47 rfl 0 rfl ?_
    refine j_dup K dX0_add_48 rfl ?_
    obtain ⟨v49, e49, h⟩ := bd h
    refine fgX0_28 K dX0_add_49 e49 ?_
    refine j_iconst (v := (1 : Int32)) K dX0_add_52 (by decide) ?_
    refine j_iadd K dX0_add_53 ?_
    obtain ⟨S54, e54, h⟩ := bd h
    refine fpX0_28 K dX0_add_54 e54 ?_
    refine j_iconst (v := (1 : Int32)) K dX0_add_57 (by decide) ?_
    exact j_zret K X dX0_add_58 h
  · replace h := ie c6 h
    refine j_iconst (v := (0 : Int32)) K dX0_add_9 (by decide) ?_
    exact j_zret K X dX0_add_10 h
theorem c_X0_add {l : Launch} {S : Hp} {o : Nat} {x1 : Int32} {x2 : Int32} {x3 : Int32} {res : Int32 × Hp} (h : F_X0_add S o x1 x2 x3 = some res) : Ct l yX0_add cX0_add 4 (some .boolean) (rmd 1 0 0) 0 0 [vR (some o), vI x1, vI x2, vI x3] S (QI res) :=
  z_entry (by decide +kernel) (Nat.le_of_ble_eq_true rfl) (fun E ad K X => w_X0_add K X h)

theorem dX0_drop_0 : decode cX0_drop 0 = .ok (.iload_n 1, 1) ∧ 0 + 1 = 1 := ⟨by decide +kernel, rfl⟩
theorem dX0_drop_1 : decode cX0_drop 1 = .ok (.istore_n 2, 1) ∧ 1 + 1 = 2 := ⟨by decide +kernel, rfl⟩
theorem dX0_drop_2 : decode cX0_drop 2 = .ok (.iload_n 2, 1) ∧ 2 + 1 = 3 := ⟨by decide +kernel, rfl⟩
theorem dX0_drop_3 : decode cX0_drop 3 = .ok (.aload_n 0, 1) ∧ 3 + 1 = 4 := ⟨by decide +kernel, rfl⟩
theorem dX0_drop_4 : decode cX0_drop 4 = .ok (.getfield 28, 3) ∧ 4 + 3 = 7 := ⟨by decide +kernel, rfl⟩
theorem dX0_drop_7 : decode cX0_drop 7 = .ok (.iconst 1, 1) ∧ 7 + 1 = 8 := ⟨by decide +kernel, rfl⟩
theorem dX0_drop_8 : decode cX0_drop 8 = .ok (.isub, 1) ∧ 8 + 1 = 9 := ⟨by decide +kernel, rfl⟩
theorem dX0_drop_9 : decode cX0_drop 9 = .ok (.if_icmp .ge 63, 3) ∧ 9 + 3 = 12 ∧ ((9 : Nat) : Int) + (63) = ((72 : Nat) : Int) := ⟨by decide +kernel, rfl, by decide⟩
theorem dX0_drop_12 : decode cX0_drop 12 = .ok (.aload_n 0, 1) ∧ 12 + 1 = 13 := ⟨by decide +kernel, rfl⟩
theorem dX0_drop_13 : decode cX0_drop 13 = .ok (.getfield 31, 3) ∧ 13 + 3 = 16 := ⟨by decide +kernel, rfl⟩
theorem dX0_drop_16 : decode cX0_drop 16 = .ok (.iload_n 2, 1) ∧ 16 + 1 = 17 := ⟨by decide +kernel, rfl⟩
theorem dX0_drop_17 : decode cX0_drop 17 = .ok (.aload_n 0, 1) ∧ 17 + 1 = 18 := ⟨by decide +kernel, rfl⟩
theorem dX0_drop_18 : decode cX0_drop 18 = .ok (.getfield 31, 3) ∧ 18 + 3 = 21 := ⟨by decide +kernel, rfl⟩
theorem dX0_drop_21 : decode cX0_drop 21 = .ok (.iload_n 2, 1) ∧ 21 + 1 = 22 := ⟨by decide +kernel, rfl⟩
theorem dX0_drop_22 : decode cX0_drop 22 = .ok (.iconst 1, 1) ∧ 22 + 1 = 23 := ⟨by decide +kernel, rfl⟩
theorem dX0_drop_23 : decode cX0_drop 23 = .ok (.iadd, 1) ∧ 23 + 1 = 24 := ⟨by decide +kernel, rfl⟩
theorem dX0_drop_24 : decode cX0_drop 24 = .ok (.invokestatic 61, 3) := by decide +kernel
theorem dX0_drop_27 : decode cX0_drop 27 = .ok (.invokestatic 65, 3) := by decide +kernel
theorem dX0_drop_30 : decode cX0_drop 30 = .ok (.aload_n 0, 1) ∧ 30 + 1 = 31 := ⟨by decide +kernel, rfl⟩
theorem dX0_drop_31 : decode cX0_drop 31 = .ok (.getfield 34, 3) ∧ 31 + 3 = 34 := ⟨by decide +kernel, rfl⟩
theorem dX0_drop_34 : decode cX0_drop 34 = .ok (.iload_n 2, 1) ∧ 34 + 1 = 35 := ⟨by decide +kernel, rfl⟩
theorem dX0_drop_35 : decode cX0_drop 35 = .ok (.aload_n 0, 1) ∧ 35 + 1 = 36 := ⟨by decide +kernel, rfl⟩
theorem dX0_drop_36 : decode cX0_drop 36 = .ok (.getfield 34, 3) ∧ 36 + 3 = 39 := ⟨by decide +kernel, rfl⟩
theorem dX0_drop_39 : decode cX0_drop 39 = .ok (.iload_n 2, 1) ∧ 39 + 1 = 40 := ⟨by decide +kernel, rfl⟩
theorem dX0_drop_40 : decode cX0_drop 40 = .ok (.iconst 1, 1) ∧ 40 + 1 = 41 := ⟨by decide +kernel, rfl⟩
theorem dX0_drop_41 : decode cX0_drop 41 = .ok (.iadd, 1) ∧ 41 + 1 = 42 := ⟨by decide +kernel, rfl⟩
theorem dX0_drop_42 : decode cX0_drop 42 = .ok (.invokestatic 61, 3) := by decide +kernel
theorem dX0_drop_45 : decode cX0_drop 45 = .ok (.invokestatic 65, 3) := by decide +kernel
theorem dX0_drop_48 : decode cX0_drop 48 = .ok (.aload_n 0, 1) ∧ 48 + 1 = 49 := ⟨by decide +kernel, rfl⟩
theorem dX0_drop_49 : decode cX0_drop 49 = .ok (.getfield 37, 3) ∧ 49 + 3 = 52 := ⟨by decide +kernel, rfl⟩
theorem dX0_drop_52 : decode cX0_drop 52 = .ok (.iload_n 2, 1) ∧ 52 + 1 = 53 := ⟨by decide +kernel, rfl⟩
theorem dX0_drop_53 : decode cX0_drop 53 = .ok (.aload_n 0, 1) ∧ 53 + 1 = 54 := ⟨by decide +kernel, rfl⟩
theorem dX0_drop_54 : decode cX0_drop 54 = .ok (.getfield 37, 3) ∧ 54 + 3 = 57 := ⟨by decide +kernel, rfl⟩
theorem dX0_drop_57 : decode cX0_drop 57 = .ok (.iload_n 2, 1) ∧ 57 + 1 = 58 := ⟨by decide +kernel, rfl⟩
theorem dX0_drop_58 : decode cX0_drop 58 = .ok (.iconst 1, 1) ∧ 58 + 1 = 59 := ⟨by decide +kernel, rfl⟩
theorem dX0_drop_59 : decode cX0_drop 59 = .ok (.iadd, 1) ∧ 59 + 1 = 60 := ⟨by decide +kernel, rfl⟩
theorem dX0_drop_60 : decode cX0_drop 60 = .ok (.invokestatic 61, 3) := by decide +kernel
theorem dX0_drop_63 : decode cX0_drop 63 = .ok (.invokestatic 65, 3) := by decide +kernel
theorem dX0_drop_66 : decode cX0_drop 66 = .ok (.iinc 2 1, 3) ∧ 66 + 3 = 69 := ⟨by decide +kernel, rfl⟩
theorem dX0_drop_69 : decode cX0_drop 69 = .ok (.goto (-67), 3) ∧ ((69 : Nat) : Int) + (-67) = ((2 : Nat) : Int) := ⟨by decide +kernel, by decide⟩
theorem dX0_drop_72 : decode cX0_drop 72 = .ok (.aload_n 0, 1) ∧ 72 + 1 = 73 := ⟨by decide +kernel, rfl⟩
theorem dX0_drop_73 : decode cX0_drop 73 = .ok (.dup, 1) ∧ 73 + 1 = 74 := ⟨by decide +kernel, rfl⟩
theorem dX0_drop_74 : decode cX0_drop 74 = .ok (.getfield 28, 3) ∧ 74 + 3 = 77 := ⟨by decide +kernel, rfl⟩
theorem dX0_drop_77 : decode cX0_drop 77 = .ok (.iconst 1, 1) ∧ 77 + 1 = 78 := ⟨by decide +kernel, rfl⟩
theorem dX0_drop_78 : decode cX0_drop 78 = .ok (.isub, 1) ∧ 78 + 1 = 79 := ⟨by decide +kernel, rfl⟩
theorem dX0_drop_79 : decode cX0_drop 79 = .ok (.putfield 28, 3) ∧ 79 + 3 = 82 := ⟨by decide +kernel, rfl⟩
theorem dX0_drop_82 : decode cX0_drop 82 = .ok (.return_, 1) := by decide +kernel
def L_X0_drop_2 (k2 : Hp → Int32 → Option (Hp)) (fu : Nat) (o : Nat) (S : Hp) (x2 : Int32) : Option (Hp) :=
  (gI S (some o) 0 5).bind fun v4 =>
  if (v4 - (1 : Int32)) ≤ x2 then
    (gI S (some o) 0 5).bind fun v74 =>
    (pI S (some o) 0 5 (v74 - (1 : Int32))).bind fun S79 =>
    some S79
  else
    (gR S (some o) 0 6).bind fun v13 =>
    (gR S (some o) 0 6).bind fun v18 =>
    b2 (F_X7_at S v18 (x2 + (1 : Int32))) fun v24 S24 =>
    (F_X7_store S24 v13 x2 v24).bind fun S27 =>
    (gR S27 (some o) 0 7).bind fun v31 =>
    (gR S27 (some o) 0 7).bind fun v36 =>
    b2 (F_X7_at S27 v36 (x2 + (1 : Int32))) fun v42 S42 =>
    (F_X7_store S42 v31 x2 v42).bind fun S45 =>
    (gR S45 (some o) 0 8).bind fun v49 =>
    (gR S45 (some o) 0 8).bind fun v54 =>
    b2 (F_X7_at S45 v54 (x2 + (1 : Int32))) fun v60 S60 =>
    (F_X7_store S60 v49 x2 v60).bind fun S63 =>
    k2 S63 (x2 + (1 : Int32))
set_option maxRecDepth 100000 in
set_option maxHeartbeats 4000000 in
theorem wl_X0_drop_2 {E : Cx} {l : Launch} {res : Hp} {ad : Nat → Nat} {k2 : Hp → Int32 → Option (Hp)} {fu : Nat} {o : Nat} {S : Hp} {x2 : Int32} (K : Kx E cX0_drop RX0 (rmd 1 0 0)) (X : Bx E l yX0_drop 3 none 0 0 ad (QV res)) (hk2 : ∀ (S : Hp) (x2 : Int32), k2 S x2 = some res → J E 0 0 2 [(0, vR (some o)), (2, vI x2)] [] S ad) (h : L_X0_drop_2 k2 fu o S x2 = some res) : J E 0 0 2 [(0, vR (some o)), (2, vI x2)] [] S ad := by
  refine j_iload_n K dX0_drop_2 rfl 1 rfl ?_
  refine j_aload_n K dX0_drop_3 rfl 0 rfl ?_
  obtain ⟨v4, e4, h⟩ := bd h
  refine fgX0_28 K dX0_drop_4 e4 ?_
  refine j_iconst (v := (1 : Int32)) K dX0_drop_7 (by decide) ?_
  refine j_isub K dX0_drop_8 ?_
  refine j_icmp_ge K dX0_drop_9 (fun c9 => ?_) (fun c9 => ?_)
  · replace h := it c9 h
    refine j_aload_n K dX0_drop_72 rfl 0 rfl ?_
    refine j_dup K dX0_drop_73 rfl ?_
    obtain ⟨v74, e74, h⟩ := bd h
    refine fgX0_28 K dX0_drop_74 e74 ?_
    refine j_iconst (v := (1 : Int32)) K dX0_drop_77 (by decide) ?_
    refine j_isub K dX0_drop_78 ?_
    obtain ⟨S79, e79, h⟩ := bd h
    refine fpX0_28 K dX0_drop_79 e79 ?_
    exact j_vret K X dX0_drop_82 h
  · replace h := ie c9 h
    refine j_aload_n K dX0_drop_12 rfl 0 rfl ?_
    obtain ⟨v13, e13, h⟩ := bd h
    refine fgX0_31 K dX0_drop_13 e13 ?_
    refine j_iload_n K dX0_drop_16 rfl 1 rfl ?_
    refine j_aload_n K dX0_drop_17 rfl 0 rfl ?_
    obtain ⟨v18, e18, h⟩ := bd h
    refine fgX0_31 K dX0_drop_18 e18 ?_
    refine j_iload_n K dX0_drop_21 rfl 1 rfl ?_
    refine j_iconst (v := (1 : Int32)) K dX0_drop_22 (by decide) ?_
    refine j_iadd K dX0_drop_23 ?_
    obtain ⟨v24, S24, e24, h⟩ := bd2 h
    refine j_cI (st := [vI x2, vR v13]) K (r_SN (vs := [vR v18, vI (x2 + (1 : Int32))]) (n := 2) (host := RX7) K (c_X7_at e24) dX0_drop_24 (List.mem_of_getElem? (i := 12) rfl) z227 z1 z228 ⟨zd_X7_at, rfl, rfl, rfl, ⟨Nat.le_of_ble_eq_true rfl, Nat.le_of_ble_eq_true rfl⟩, Nat.le_of_ble_eq_true rfl, Nat.le_of_ble_eq_true rfl, Nat.le_of_ble_eq_true rfl⟩) rfl ?_
    obtain ⟨S27, e27, h⟩ := bd h
    refine j_cV (st := []) K (r_SN (vs := [vR v13, vI x2, vI v24]) (n := 3) (host := RX7) K (c_X7_store e27) dX0_drop_27 (List.mem_of_getElem? (i := 10) rfl) z216 z1 z217 ⟨zd_X7_store, rfl, rfl, rfl, ⟨Nat.le_of_ble_eq_true rfl, Nat.le_of_ble_eq_true rfl⟩, Nat.le_of_ble_eq_true rfl, Nat.le_of_ble_eq_true rfl, Nat.le_of_ble_eq_true rfl⟩) rfl ?_
    refine j_aload_n K dX0_drop_30 rfl 0 rfl ?_
    obtain ⟨v31, e31, h⟩ := bd h
    refine fgX0_34 K dX0_drop_31 e31 ?_
    refine j_iload_n K dX0_drop_34 rfl 1 rfl ?_
    refine j_aload_n K dX0_drop_35 rfl 0 rfl ?_
    obtain ⟨v36, e36, h⟩ := bd h
    refine fgX0_34 K dX0_drop_36 e36 ?_
    refine j_iload_n K dX0_drop_39 rfl 1 rfl ?_
    refine j_iconst (v := (1 : Int32)) K dX0_drop_40 (by decide) ?_
    refine j_iadd K dX0_drop_41 ?_
    obtain ⟨v42, S42, e42, h⟩ := bd2 h
    refine j_cI (st := [vI x2, vR v31]) K (r_SN (vs := [vR v36, vI (x2 + (1 : Int32))]) (n := 2) (host := RX7) K (c_X7_at e42) dX0_drop_42 (List.mem_of_getElem? (i := 12) rfl) z227 z1 z228 ⟨zd_X7_at, rfl, rfl, rfl, ⟨Nat.le_of_ble_eq_true rfl, Nat.le_of_ble_eq_true rfl⟩, Nat.le_of_ble_eq_true rfl, Nat.le_of_ble_eq_true rfl, Nat.le_of_ble_eq_true rfl⟩) rfl ?_
    obtain ⟨S45, e45, h⟩ := bd h
    refine j_cV (st := []) K (r_SN (vs := [vR v31, vI x2, vI v42]) (n := 3) (host := RX7) K (c_X7_store e45) dX0_drop_45 (List.mem_of_getElem? (i := 10) rfl) z216 z1 z217 ⟨zd_X7_store, rfl, rfl, rfl, ⟨Nat.le_of_ble_eq_true rfl, Nat.le_of_ble_eq_true rfl⟩, Nat.le_of_ble_eq_true rfl, Nat.le_of_ble_eq_true rfl, Nat.le_of_ble_eq_true rfl⟩) rfl ?_
    refine j_aload_n K dX0_drop_48 rfl 0 rfl ?_
    obtain ⟨v49, e49, h⟩ := bd h
    refine fgX0_37 K dX0_drop_49 e49 ?_
    refine j_iload_n K dX0_drop_52 rfl 1 rfl ?_
    refine j_aload_n K dX0_drop_53 rfl 0 rfl ?_
    obtain ⟨v54, e54, h⟩ := bd h
    refine fgX0_37 K dX0_drop_54 e54 ?_
    refine j_iload_n K dX0_drop_57 rfl 1 rfl ?_
    refine j_iconst (v := (1 : Int32)) K dX0_drop_58 (by decide) ?_
    refine j_iadd K dX0_drop_59 ?_
    obtain ⟨v60, S60, e60, h⟩ := bd2 h
    refine j_cI (st := [vI x2, vR v49]) K (r_SN (vs := [vR v54, vI (x2 + (1 : Int32))]) (n := 2) (host := RX7) K (c_X7_at e60) dX0_drop_60 (List.mem_of_getElem? (i := 12) rfl) z227 z1 z228 ⟨zd_X7_at, rfl, rfl, rfl, ⟨Nat.le_of_ble_eq_true rfl, Nat.le_of_ble_eq_true rfl⟩, Nat.le_of_ble_eq_true rfl, Nat.le_of_ble_eq_true rfl, Nat.le_of_ble_eq_true rfl⟩) rfl ?_
    obtain ⟨S63, e63, h⟩ := bd h
    refine j_cV (st := []) K (r_SN (vs := [vR v49, vI x2, vI v60]) (n := 3) (host := RX7) K (c_X7_store e63) dX0_drop_63 (List.mem_of_getElem? (i := 10) rfl) z216 z1 z217 ⟨zd_X7_store, rfl, rfl, rfl, ⟨Nat.le_of_ble_eq_true rfl, Nat.le_of_ble_eq_true rfl⟩, Nat.le_of_ble_eq_true rfl, Nat.le_of_ble_eq_true rfl, Nat.le_of_ble_eq_true rfl⟩) rfl ?_
    refine j_iinc (q := 1) (v := (x2 + (1 : Int32))) (lv' := [(2, vI (x2 + (1 : Int32))), (0, vR (some o))]) K dX0_drop_66 rfl rfl X.2.2.1 (by decide) rfl ?_
    refine j_goto K dX0_drop_69 ?_
    exact j_sub [1, 0] rfl (hk2 _ _ h)
def B_X0_drop_2 (fu : Nat) (o : Nat) : Nat → Hp → Int32 → Option (Hp)
  | 0 => fun _ _ => none
  | n + 1 => L_X0_drop_2 (B_X0_drop_2 fu o n) fu o
theorem w_X0_drop_2 {E : Cx} {l : Launch} {res : Hp} {ad : Nat → Nat} {fu : Nat} {o : Nat} (K : Kx E cX0_drop RX0 (rmd 1 0 0)) (X : Bx E l yX0_drop 3 none 0 0 ad (QV res)) : ∀ (n : Nat) (S : Hp) (x2 : Int32), B_X0_drop_2 fu o n S x2 = some res → J E 0 0 2 [(0, vR (some o)), (2, vI x2)] [] S ad := by
  intro n
  induction n with
  | zero =>
    intro S x2 h
    cases h
  | succ n ih =>
    intro S x2 h
    exact wl_X0_drop_2 K X ih h
def F_X0_drop (fu : Nat) (S : Hp) (o : Nat) (x1 : Int32) : Option (Hp) :=
  B_X0_drop_2 fu o fu S x1
set_option maxRecDepth 100000 in
set_option maxHeartbeats 4000000 in
theorem w_X0_drop {E : Cx} {l : Launch} {res : Hp} {ad : Nat → Nat} {fu : Nat} {S : Hp} {o : Nat} {x1 : Int32} (K : Kx E cX0_drop RX0 (rmd 1 0 0)) (X : Bx E l yX0_drop 3 none 0 0 ad (QV res)) (h : F_X0_drop fu S o x1 = some res) : J E 0 0 0 [(0, vR (some o)), (1, vI x1)] [] S ad := by
  refine j_iload_n K dX0_drop_0 rfl 1 rfl ?_
  refine j_istore_n (lv' := [(2, vI x1), (0, vR (some o)), (1, vI x1)]) K dX0_drop_1 rfl X.2.2.1 (by decide) rfl ?_
  exact j_sub [1, 0] rfl (w_X0_drop_2 K X _ _ _ h)
theorem c_X0_drop {l : Launch} {fu : Nat} {S : Hp} {o : Nat} {x1 : Int32} {res : Hp} (h : F_X0_drop fu S o x1 = some res) : Ct l yX0_drop cX0_drop 3 none (rmd 1 0 0) 0 0 [vR (some o), vI x1] S (QV res) :=
  z_entry (by decide +kernel) (Nat.le_of_ble_eq_true rfl) (fun E ad K X => w_X0_drop K X h)

theorem dX0_blind_0 : decode cX0_blind 0 = .ok (.iconst 0, 1) ∧ 0 + 1 = 1 := ⟨by decide +kernel, rfl⟩
theorem dX0_blind_1 : decode cX0_blind 1 = .ok (.istore_n 2, 1) ∧ 1 + 1 = 2 := ⟨by decide +kernel, rfl⟩
theorem dX0_blind_2 : decode cX0_blind 2 = .ok (.iload_n 2, 1) ∧ 2 + 1 = 3 := ⟨by decide +kernel, rfl⟩
theorem dX0_blind_3 : decode cX0_blind 3 = .ok (.aload_n 0, 1) ∧ 3 + 1 = 4 := ⟨by decide +kernel, rfl⟩
theorem dX0_blind_4 : decode cX0_blind 4 = .ok (.getfield 28, 3) ∧ 4 + 3 = 7 := ⟨by decide +kernel, rfl⟩
theorem dX0_blind_7 : decode cX0_blind 7 = .ok (.if_icmp .ge 31, 3) ∧ 7 + 3 = 10 ∧ ((7 : Nat) : Int) + (31) = ((38 : Nat) : Int) := ⟨by decide +kernel, rfl, by decide⟩
theorem dX0_blind_10 : decode cX0_blind 10 = .ok (.aload_n 0, 1) ∧ 10 + 1 = 11 := ⟨by decide +kernel, rfl⟩
theorem dX0_blind_11 : decode cX0_blind 11 = .ok (.getfield 37, 3) ∧ 11 + 3 = 14 := ⟨by decide +kernel, rfl⟩
theorem dX0_blind_14 : decode cX0_blind 14 = .ok (.iload_n 2, 1) ∧ 14 + 1 = 15 := ⟨by decide +kernel, rfl⟩
theorem dX0_blind_15 : decode cX0_blind 15 = .ok (.aload_n 0, 1) ∧ 15 + 1 = 16 := ⟨by decide +kernel, rfl⟩
theorem dX0_blind_16 : decode cX0_blind 16 = .ok (.getfield 37, 3) ∧ 16 + 3 = 19 := ⟨by decide +kernel, rfl⟩
theorem dX0_blind_19 : decode cX0_blind 19 = .ok (.iload_n 2, 1) ∧ 19 + 1 = 20 := ⟨by decide +kernel, rfl⟩
theorem dX0_blind_20 : decode cX0_blind 20 = .ok (.invokestatic 61, 3) := by decide +kernel
theorem dX0_blind_23 : decode cX0_blind 23 = .ok (.iconst 1, 1) ∧ 23 + 1 = 24 := ⟨by decide +kernel, rfl⟩
theorem dX0_blind_24 : decode cX0_blind 24 = .ok (.iload_n 1, 1) ∧ 24 + 1 = 25 := ⟨by decide +kernel, rfl⟩
theorem dX0_blind_25 : decode cX0_blind 25 = .ok (.ishl, 1) ∧ 25 + 1 = 26 := ⟨by decide +kernel, rfl⟩
theorem dX0_blind_26 : decode cX0_blind 26 = .ok (.iconst (-1), 1) ∧ 26 + 1 = 27 := ⟨by decide +kernel, rfl⟩
theorem dX0_blind_27 : decode cX0_blind 27 = .ok (.ixor, 1) ∧ 27 + 1 = 28 := ⟨by decide +kernel, rfl⟩
theorem dX0_blind_28 : decode cX0_blind 28 = .ok (.iand, 1) ∧ 28 + 1 = 29 := ⟨by decide +kernel, rfl⟩
theorem dX0_blind_29 : decode cX0_blind 29 = .ok (.invokestatic 65, 3) := by decide +kernel
theorem dX0_blind_32 : decode cX0_blind 32 = .ok (.iinc 2 1, 3) ∧ 32 + 3 = 35 := ⟨by decide +kernel, rfl⟩
theorem dX0_blind_35 : decode cX0_blind 35 = .ok (.goto (-33), 3) ∧ ((35 : Nat) : Int) + (-33) = ((2 : Nat) : Int) := ⟨by decide +kernel, by decide⟩
theorem dX0_blind_38 : decode cX0_blind 38 = .ok (.return_, 1) := by decide +kernel
def L_X0_blind_2 (k2 : Hp → Int32 → Option (Hp)) (fu : Nat) (o : Nat) (x1 : Int32) (S : Hp) (x2 : Int32) : Option (Hp) :=
  (gI S (some o) 0 5).bind fun v4 =>
  if v4 ≤ x2 then
    some S
  else
    (gR S (some o) 0 8).bind fun v11 =>
    (gR S (some o) 0 8).bind fun v16 =>
    b2 (F_X7_at S v16 x2) fun v20 S20 =>
    (F_X7_store S20 v11 x2 (v20 &&& (((1 : Int32) <<< (x1 &&& 31)) ^^^ (-1 : Int32)))).bind fun S29 =>
    k2 S29 (x2 + (1 : Int32))
set_option maxRecDepth 100000 in
set_option maxHeartbeats 4000000 in
theorem wl_X0_blind_2 {E : Cx} {l : Launch} {res : Hp} {ad : Nat → Nat} {k2 : Hp → Int32 → Option (Hp)} {fu : Nat} {o : Nat} {S : Hp} {x1 : Int32} {x2 : Int32} (K : Kx E cX0_blind RX0 (rmd 1 0 0)) (X : Bx E l yX0_blind 3 none 0 0 ad (QV res)) (hk2 : ∀ (S : Hp) (x2 : Int32), k2 S x2 = some res → J E 0 0 2 [(0, vR (some o)), (1, vI x1), (2, vI x2)] [] S ad) (h : L_X0_blind_2 k2 fu o x1 S x2 = some res) : J E 0 0 2 [(0, vR (some o)), (1, vI x1), (2, vI x2)] [] S ad := by
  refine j_iload_n K dX0_blind_2 rfl 2 rfl ?_
  refine j_aload_n K dX0_blind_3 rfl 0 rfl ?_
  obtain ⟨v4, e4, h⟩ := bd h
  refine fgX0_28 K dX0_blind_4 e4 ?_
  refine j_icmp_ge K dX0_blind_7 (fun c7 => ?_) (fun c7 => ?_)
  · replace h := it c7 h
    exact j_vret K X dX0_blind_38 h
  · replace h := ie c7 h
    refine j_aload_n K dX0_blind_10 rfl 0 rfl ?_
    obtain ⟨v11, e11, h⟩ := bd h
    refine fgX0_37 K dX0_blind_11 e11 ?_
    refine j_iload_n K dX0_blind_14 rfl 2 rfl ?_
    refine j_aload_n K dX0_blind_15 rfl 0 rfl ?_
    obtain ⟨v16, e16, h⟩ := bd h
    refine fgX0_37 K dX0_blind_16 e16 ?_
    refine j_iload_n K dX0_blind_19 rfl 2 rfl ?_
    obtain ⟨v20, S20, e20, h⟩ := bd2 h
    refine j_cI (st := [vI x2, vR v11]) K (r_SN (vs := [vR v16, vI x2]) (n := 2) (host := RX7) K (c_X7_at e20) dX0_blind_20 (List.mem_of_getElem? (i := 12) rfl) z227 z1 z228 ⟨zd_X7_at, rfl, rfl, rfl, ⟨Nat.le_of_ble_eq_true rfl, Nat.le_of_ble_eq_true rfl⟩, Nat.le_of_ble_eq_true rfl, Nat.le_of_ble_eq_true rfl, Nat.le_of_ble_eq_true rfl⟩) rfl ?_
    refine j_iconst (v := (1 : Int32)) K dX0_blind_23 (by decide) ?_
    refine j_iload_n K dX0_blind_24 rfl 1 rfl ?_
    refine j_ishl K dX0_blind_25 ?_
    refine j_iconst (v := (-1 : Int32)) K dX0_blind_26 (by decide) ?_
    refine j_ixor K dX0_blind_27 ?_
    refine j_iand K dX0_blind_28 ?_
    obtain ⟨S29, e29, h⟩ := bd h
    refine j_cV (st := []) K (r_SN (vs := [vR v11, vI x2, vI (v20 &&& (((1 : Int32) <<< (x1 &&& 31)) ^^^ (-1 : Int32)))]) (n := 3) (host := RX7) K (c_X7_store e29) dX0_blind_29 (List.mem_of_getElem? (i := 10) rfl) z216 z1 z217 ⟨zd_X7_store, rfl, rfl, rfl, ⟨Nat.le_of_ble_eq_true rfl, Nat.le_of_ble_eq_true rfl⟩, Nat.le_of_ble_eq_true rfl, Nat.le_of_ble_eq_true rfl, Nat.le_of_ble_eq_true rfl⟩) rfl ?_
    refine j_iinc (q := 2) (v := (x2 + (1 : Int32))) (lv' := [(2, vI (x2 + (1 : Int32))), (0, vR (some o)), (1, vI x1)]) K dX0_blind_32 rfl rfl X.2.2.1 (by decide) rfl ?_
    refine j_goto K dX0_blind_35 ?_
    exact j_sub [1, 2, 0] rfl (hk2 _ _ h)
def B_X0_blind_2 (fu : Nat) (o : Nat) (x1 : Int32) : Nat → Hp → Int32 → Option (Hp)
  | 0 => fun _ _ => none
  | n + 1 => L_X0_blind_2 (B_X0_blind_2 fu o x1 n) fu o x1
theorem w_X0_blind_2 {E : Cx} {l : Launch} {res : Hp} {ad : Nat → Nat} {fu : Nat} {o : Nat} {x1 : Int32} (K : Kx E cX0_blind RX0 (rmd 1 0 0)) (X : Bx E l yX0_blind 3 none 0 0 ad (QV res)) : ∀ (n : Nat) (S : Hp) (x2 : Int32), B_X0_blind_2 fu o x1 n S x2 = some res → J E 0 0 2 [(0, vR (some o)), (1, vI x1), (2, vI x2)] [] S ad := by
  intro n
  induction n with
  | zero =>
    intro S x2 h
    cases h
  | succ n ih =>
    intro S x2 h
    exact wl_X0_blind_2 K X ih h
def F_X0_blind (fu : Nat) (S : Hp) (o : Nat) (x1 : Int32) : Option (Hp) :=
  B_X0_blind_2 fu o x1 fu S (0 : Int32)
set_option maxRecDepth 100000 in
set_option maxHeartbeats 4000000 in
theorem w_X0_blind {E : Cx} {l : Launch} {res : Hp} {ad : Nat → Nat} {fu : Nat} {S : Hp} {o : Nat} {x1 : Int32} (K : Kx E cX0_blind RX0 (rmd 1 0 0)) (X : Bx E l yX0_blind 3 none 0 0 ad (QV res)) (h : F_X0_blind fu S o x1 = some res) : J E 0 0 0 [(0, vR (some o)), (1, vI x1)] [] S ad := by
  refine j_iconst (v := (0 : Int32)) K dX0_blind_0 (by decide) ?_
  refine j_istore_n (lv' := [(2, vI (0 : Int32)), (0, vR (some o)), (1, vI x1)]) K dX0_blind_1 rfl X.2.2.1 (by decide) rfl ?_
  exact j_sub [1, 2, 0] rfl (w_X0_blind_2 K X _ _ _ h)
theorem c_X0_blind {l : Launch} {fu : Nat} {S : Hp} {o : Nat} {x1 : Int32} {res : Hp} (h : F_X0_blind fu S o x1 = some res) : Ct l yX0_blind cX0_blind 3 none (rmd 1 0 0) 0 0 [vR (some o), vI x1] S (QV res) :=
  z_entry (by decide +kernel) (Nat.le_of_ble_eq_true rfl) (fun E ad K X => w_X0_blind K X h)

theorem dX0_draw_0 : decode cX0_draw 0 = .ok (.aload_n 0, 1) ∧ 0 + 1 = 1 := ⟨by decide +kernel, rfl⟩
theorem dX0_draw_1 : decode cX0_draw 1 = .ok (.iconst 0, 1) ∧ 1 + 1 = 2 := ⟨by decide +kernel, rfl⟩
theorem dX0_draw_2 : decode cX0_draw 2 = .ok (.putfield 28, 3) ∧ 2 + 3 = 5 := ⟨by decide +kernel, rfl⟩
theorem dX0_draw_5 : decode cX0_draw 5 = .ok (.aload_n 0, 1) ∧ 5 + 1 = 6 := ⟨by decide +kernel, rfl⟩
theorem dX0_draw_6 : decode cX0_draw 6 = .ok (.getfield 9, 3) ∧ 6 + 3 = 9 := ⟨by decide +kernel, rfl⟩
theorem dX0_draw_9 : decode cX0_draw 9 = .ok (.ifCond .gt 4, 3) ∧ 9 + 3 = 12 ∧ ((9 : Nat) : Int) + (4) = ((13 : Nat) : Int) := ⟨by decide +kernel, rfl, by decide⟩
theorem dX0_draw_12 : decode cX0_draw 12 = .ok (.return_, 1) := by decide +kernel
theorem dX0_draw_13 : decode cX0_draw 13 = .ok (.iload_n 1, 1) ∧ 13 + 1 = 14 := ⟨by decide +kernel, rfl⟩
theorem dX0_draw_14 : decode cX0_draw 14 = .ok (.i2l, 1) ∧ 14 + 1 = 15 := ⟨by decide +kernel, rfl⟩
theorem dX0_draw_15 : decode cX0_draw 15 = .ok (.lconst 1, 1) ∧ 15 + 1 = 16 := ⟨by decide +kernel, rfl⟩
theorem dX0_draw_16 : decode cX0_draw 16 = .ok (.ladd, 1) ∧ 16 + 1 = 17 := ⟨by decide +kernel, rfl⟩
theorem dX0_draw_17 : decode cX0_draw 17 = .ok (.lstore_n 2, 1) ∧ 17 + 1 = 18 := ⟨by decide +kernel, rfl⟩
theorem dX0_draw_18 : decode cX0_draw 18 = .ok (.iconst 0, 1) ∧ 18 + 1 = 19 := ⟨by decide +kernel, rfl⟩
theorem dX0_draw_19 : decode cX0_draw 19 = .ok (.istore 4, 2) ∧ 19 + 2 = 21 := ⟨by decide +kernel, rfl⟩
theorem dX0_draw_21 : decode cX0_draw 21 = .ok (.iload 4, 2) ∧ 21 + 2 = 23 := ⟨by decide +kernel, rfl⟩
theorem dX0_draw_23 : decode cX0_draw 23 = .ok (.bipush 6, 2) ∧ 23 + 2 = 25 := ⟨by decide +kernel, rfl⟩
theorem dX0_draw_25 : decode cX0_draw 25 = .ok (.if_icmp .ge 95, 3) ∧ 25 + 3 = 28 ∧ ((25 : Nat) : Int) + (95) = ((120 : Nat) : Int) := ⟨by decide +kernel, rfl, by decide⟩
theorem dX0_draw_28 : decode cX0_draw 28 = .ok (.lload_n 2, 1) ∧ 28 + 1 = 29 := ⟨by decide +kernel, rfl⟩
theorem dX0_draw_29 : decode cX0_draw 29 = .ok (.ldc2_w 73, 3) ∧ 29 + 3 = 32 := ⟨by decide +kernel, rfl⟩
theorem dX0_draw_32 : decode cX0_draw 32 = .ok (.lmul, 1) ∧ 32 + 1 = 33 := ⟨by decide +kernel, rfl⟩
theorem dX0_draw_33 : decode cX0_draw 33 = .ok (.ldc2_w 75, 3) ∧ 33 + 3 = 36 := ⟨by decide +kernel, rfl⟩
theorem dX0_draw_36 : decode cX0_draw 36 = .ok (.lrem, 1) ∧ 36 + 1 = 37 := ⟨by decide +kernel, rfl⟩
theorem dX0_draw_37 : decode cX0_draw 37 = .ok (.lstore_n 2, 1) ∧ 37 + 1 = 38 := ⟨by decide +kernel, rfl⟩
theorem dX0_draw_38 : decode cX0_draw 38 = .ok (.lload_n 2, 1) ∧ 38 + 1 = 39 := ⟨by decide +kernel, rfl⟩
theorem dX0_draw_39 : decode cX0_draw 39 = .ok (.aload_n 0, 1) ∧ 39 + 1 = 40 := ⟨by decide +kernel, rfl⟩
theorem dX0_draw_40 : decode cX0_draw 40 = .ok (.getfield 9, 3) ∧ 40 + 3 = 43 := ⟨by decide +kernel, rfl⟩
theorem dX0_draw_43 : decode cX0_draw 43 = .ok (.i2l, 1) ∧ 43 + 1 = 44 := ⟨by decide +kernel, rfl⟩
theorem dX0_draw_44 : decode cX0_draw 44 = .ok (.lrem, 1) ∧ 44 + 1 = 45 := ⟨by decide +kernel, rfl⟩
theorem dX0_draw_45 : decode cX0_draw 45 = .ok (.l2i, 1) ∧ 45 + 1 = 46 := ⟨by decide +kernel, rfl⟩
theorem dX0_draw_46 : decode cX0_draw 46 = .ok (.istore 5, 2) ∧ 46 + 2 = 48 := ⟨by decide +kernel, rfl⟩
theorem dX0_draw_48 : decode cX0_draw 48 = .ok (.lload_n 2, 1) ∧ 48 + 1 = 49 := ⟨by decide +kernel, rfl⟩
theorem dX0_draw_49 : decode cX0_draw 49 = .ok (.ldc2_w 73, 3) ∧ 49 + 3 = 52 := ⟨by decide +kernel, rfl⟩
theorem dX0_draw_52 : decode cX0_draw 52 = .ok (.lmul, 1) ∧ 52 + 1 = 53 := ⟨by decide +kernel, rfl⟩
theorem dX0_draw_53 : decode cX0_draw 53 = .ok (.ldc2_w 75, 3) ∧ 53 + 3 = 56 := ⟨by decide +kernel, rfl⟩
theorem dX0_draw_56 : decode cX0_draw 56 = .ok (.lrem, 1) ∧ 56 + 1 = 57 := ⟨by decide +kernel, rfl⟩
theorem dX0_draw_57 : decode cX0_draw 57 = .ok (.lstore_n 2, 1) ∧ 57 + 1 = 58 := ⟨by decide +kernel, rfl⟩
theorem dX0_draw_58 : decode cX0_draw 58 = .ok (.lload_n 2, 1) ∧ 58 + 1 = 59 := ⟨by decide +kernel, rfl⟩
theorem dX0_draw_59 : decode cX0_draw 59 = .ok (.aload_n 0, 1) ∧ 59 + 1 = 60 := ⟨by decide +kernel, rfl⟩
theorem dX0_draw_60 : decode cX0_draw 60 = .ok (.getfield 9, 3) ∧ 60 + 3 = 63 := ⟨by decide +kernel, rfl⟩
theorem dX0_draw_63 : decode cX0_draw 63 = .ok (.i2l, 1) ∧ 63 + 1 = 64 := ⟨by decide +kernel, rfl⟩
theorem dX0_draw_64 : decode cX0_draw 64 = .ok (.lrem, 1) ∧ 64 + 1 = 65 := ⟨by decide +kernel, rfl⟩
theorem dX0_draw_65 : decode cX0_draw 65 = .ok (.l2i, 1) ∧ 65 + 1 = 66 := ⟨by decide +kernel, rfl⟩
theorem dX0_draw_66 : decode cX0_draw 66 = .ok (.istore 6, 2) ∧ 66 + 2 = 68 := ⟨by decide +kernel, rfl⟩
theorem dX0_draw_68 : decode cX0_draw 68 = .ok (.lload_n 2, 1) ∧ 68 + 1 = 69 := ⟨by decide +kernel, rfl⟩
theorem dX0_draw_69 : decode cX0_draw 69 = .ok (.ldc2_w 73, 3) ∧ 69 + 3 = 72 := ⟨by decide +kernel, rfl⟩
theorem dX0_draw_72 : decode cX0_draw 72 = .ok (.lmul, 1) ∧ 72 + 1 = 73 := ⟨by decide +kernel, rfl⟩
theorem dX0_draw_73 : decode cX0_draw 73 = .ok (.ldc2_w 75, 3) ∧ 73 + 3 = 76 := ⟨by decide +kernel, rfl⟩
theorem dX0_draw_76 : decode cX0_draw 76 = .ok (.lrem, 1) ∧ 76 + 1 = 77 := ⟨by decide +kernel, rfl⟩
theorem dX0_draw_77 : decode cX0_draw 77 = .ok (.lstore_n 2, 1) ∧ 77 + 1 = 78 := ⟨by decide +kernel, rfl⟩
theorem dX0_draw_78 : decode cX0_draw 78 = .ok (.iconst 1, 1) ∧ 78 + 1 = 79 := ⟨by decide +kernel, rfl⟩
theorem dX0_draw_79 : decode cX0_draw 79 = .ok (.lload_n 2, 1) ∧ 79 + 1 = 80 := ⟨by decide +kernel, rfl⟩
theorem dX0_draw_80 : decode cX0_draw 80 = .ok (.ldc2_w 77, 3) ∧ 80 + 3 = 83 := ⟨by decide +kernel, rfl⟩
theorem dX0_draw_83 : decode cX0_draw 83 = .ok (.lrem, 1) ∧ 83 + 1 = 84 := ⟨by decide +kernel, rfl⟩
theorem dX0_draw_84 : decode cX0_draw 84 = .ok (.l2i, 1) ∧ 84 + 1 = 85 := ⟨by decide +kernel, rfl⟩
theorem dX0_draw_85 : decode cX0_draw 85 = .ok (.iadd, 1) ∧ 85 + 1 = 86 := ⟨by decide +kernel, rfl⟩
theorem dX0_draw_86 : decode cX0_draw 86 = .ok (.istore 7, 2) ∧ 86 + 2 = 88 := ⟨by decide +kernel, rfl⟩
theorem dX0_draw_88 : decode cX0_draw 88 = .ok (.aload_n 0, 1) ∧ 88 + 1 = 89 := ⟨by decide +kernel, rfl⟩
theorem dX0_draw_89 : decode cX0_draw 89 = .ok (.iconst 1, 1) ∧ 89 + 1 = 90 := ⟨by decide +kernel, rfl⟩
theorem dX0_draw_90 : decode cX0_draw 90 = .ok (.iload 5, 2) ∧ 90 + 2 = 92 := ⟨by decide +kernel, rfl⟩
theorem dX0_draw_92 : decode cX0_draw 92 = .ok (.ishl, 1) ∧ 92 + 1 = 93 := ⟨by decide +kernel, rfl⟩
theorem dX0_draw_93 : decode cX0_draw 93 = .ok (.iload 7, 2) ∧ 93 + 2 = 95 := ⟨by decide +kernel, rfl⟩
theorem dX0_draw_95 : decode cX0_draw 95 = .ok (.iload 6, 2) ∧ 95 + 2 = 97 := ⟨by decide +kernel, rfl⟩
theorem dX0_draw_97 : decode cX0_draw 97 = .ok (.iload 5, 2) ∧ 97 + 2 = 99 := ⟨by decide +kernel, rfl⟩
theorem dX0_draw_99 : decode cX0_draw 99 = .ok (.if_icmp .ne 7, 3) ∧ 99 + 3 = 102 ∧ ((99 : Nat) : Int) + (7) = ((106 : Nat) : Int) := ⟨by decide +kernel, rfl, by decide⟩
theorem dX0_draw_102 : decode cX0_draw 102 = .ok (.iconst 0, 1) ∧ 102 + 1 = 103 := ⟨by decide +kernel, rfl⟩
theorem dX0_draw_103 : decode cX0_draw 103 = .ok (.goto 7, 3) ∧ ((103 : Nat) : Int) + (7) = ((110 : Nat) : Int) := ⟨by decide +kernel, by decide⟩
theorem dX0_draw_106 : decode cX0_draw 106 = .ok (.iconst 1, 1) ∧ 106 + 1 = 107 := ⟨by decide +kernel, rfl⟩
theorem dX0_draw_107 : decode cX0_draw 107 = .ok (.iload 6, 2) ∧ 107 + 2 = 109 := ⟨by decide +kernel, rfl⟩
theorem dX0_draw_109 : decode cX0_draw 109 = .ok (.ishl, 1) ∧ 109 + 1 = 110 := ⟨by decide +kernel, rfl⟩
theorem dX0_draw_110 : decode cX0_draw 110 = .ok (.invokevirtual 79, 3) := by decide +kernel
theorem dX0_draw_113 : decode cX0_draw 113 = .ok (.pop, 1) ∧ 113 + 1 = 114 := ⟨by decide +kernel, rfl⟩
theorem dX0_draw_114 : decode cX0_draw 114 = .ok (.iinc 4 1, 3) ∧ 114 + 3 = 117 := ⟨by decide +kernel, rfl⟩
theorem dX0_draw_117 : decode cX0_draw 117 = .ok (.goto (-96), 3) ∧ ((117 : Nat) : Int) + (-96) = ((21 : Nat) : Int) := ⟨by decide +kernel, by decide⟩
theorem dX0_draw_120 : decode cX0_draw 120 = .ok (.return_, 1) := by decide +kernel
def B_X0_draw_110 (k21 : Hp → Int64 → Int32 → Option (Hp)) (fu : Nat) (o : Nat) (S : Hp) (x2 : Int64) (x4 : Int32) (s0 : Int32) (s1 : Int32) (s2 : Int32) (s3 : Option Nat) : Option (Hp) :=
  (ob S 0 s3).bind fun o110 =>
  b2 (F_X0_add S o110 s2 s1 s0) fun v110 S110 =>
  k21 S110 x2 (x4 + (1 : Int32))
set_option maxRecDepth 100000 in
set_option maxHeartbeats 4000000 in
theorem w_X0_draw_110 {E : Cx} {l : Launch} {res : Hp} {ad : Nat → Nat} {k21 : Hp → Int64 → Int32 → Option (Hp)} {fu : Nat} {o : Nat} {S : Hp} {x2 : Int64} {x4 : Int32} {s0 : Int32} {s1 : Int32} {s2 : Int32} {s3 : Option Nat} (K : Kx E cX0_draw RX0 (rmd 2 0 0)) (X : Bx E l yX0_draw 8 none 0 0 ad (QV res)) (hk21 : ∀ (S : Hp) (x2 : Int64) (x4 : Int32), k21 S x2 x4 = some res → J E 0 0 21 [(0, vR (some o)), (2, vJ x2), (4, vI x4)] [] S ad) (h : B_X0_draw_110 k21 fu o S x2 x4 s0 s1 s2 s3 = some res) : J E 0 0 110 [(0, vR (some o)), (2, vJ x2), (4, vI x4)] [vI s0, vI s1, vI s2, vR s3] S ad := by
  obtain ⟨o110, ew110, hz110⟩ := bd h
  obtain ⟨er110, ho110⟩ := ob_some ew110
  subst er110
  have h := hz110
  obtain ⟨v110, S110, e110, h⟩ := bd2 h
  refine j_cI (st := []) K (r_V (vs := [vI s2, vI s1, vI s0]) (n := 3) (o := o110) K (c_X0_add e110) ho110 (by decide) rfl dX0_draw_110 z749 z412 z413 z2 z414 ⟨zd_X0_add, rfl, rfl, rfl, ⟨Nat.le_of_ble_eq_true rfl, Nat.le_of_ble_eq_true rfl⟩, Nat.le_of_ble_eq_true rfl, Nat.le_of_ble_eq_true rfl, Nat.le_of_ble_eq_true rfl⟩) rfl ?_
  refine j_pop K dX0_draw_113 rfl ?_
  refine j_iinc (q := 2) (v := (x4 + (1 : Int32))) (lv' := [(4, vI (x4 + (1 : Int32))), (0, vR (some o)), (2, vJ x2)]) K dX0_draw_114 rfl rfl X.2.2.1 (by decide) rfl ?_
  refine j_goto K dX0_draw_117 ?_
  exact j_sub [1, 2, 0] rfl (hk21 _ _ _ h)
def L_X0_draw_21 (k21 : Hp → Int64 → Int32 → Option (Hp)) (fu : Nat) (o : Nat) (S : Hp) (x2 : Int64) (x4 : Int32) : Option (Hp) :=
  if (6 : Int32) ≤ x4 then
    some S
  else
    (gI S (some o) 0 0).bind fun v40 =>
    if v40.toInt64 = 0 then none else
    (gI S (some o) 0 0).bind fun v60 =>
    if v60.toInt64 = 0 then none else
    if ((((((x2 * (48271 : Int64)) - (x2 * (48271 : Int64)) / (2147483647 : Int64) * (2147483647 : Int64)) * (48271 : Int64)) - (((x2 * (48271 : Int64)) - (x2 * (48271 : Int64)) / (2147483647 : Int64) * (2147483647 : Int64)) * (48271 : Int64)) / (2147483647 : Int64) * (2147483647 : Int64)) - ((((x2 * (48271 : Int64)) - (x2 * (48271 : Int64)) / (2147483647 : Int64) * (2147483647 : Int64)) * (48271 : Int64)) - (((x2 * (48271 : Int64)) - (x2 * (48271 : Int64)) / (2147483647 : Int64) * (2147483647 : Int64)) * (48271 : Int64)) / (2147483647 : Int64) * (2147483647 : Int64)) / v60.toInt64 * v60.toInt64).toInt32) = ((((x2 * (48271 : Int64)) - (x2 * (48271 : Int64)) / (2147483647 : Int64) * (2147483647 : Int64)) - ((x2 * (48271 : Int64)) - (x2 * (48271 : Int64)) / (2147483647 : Int64) * (2147483647 : Int64)) / v40.toInt64 * v40.toInt64).toInt32) then
      B_X0_draw_110 k21 fu o S ((((((x2 * (48271 : Int64)) - (x2 * (48271 : Int64)) / (2147483647 : Int64) * (2147483647 : Int64)) * (48271 : Int64)) - (((x2 * (48271 : Int64)) - (x2 * (48271 : Int64)) / (2147483647 : Int64) * (2147483647 : Int64)) * (48271 : Int64)) / (2147483647 : Int64) * (2147483647 : Int64)) * (48271 : Int64)) - (((((x2 * (48271 : Int64)) - (x2 * (48271 : Int64)) / (2147483647 : Int64) * (2147483647 : Int64)) * (48271 : Int64)) - (((x2 * (48271 : Int64)) - (x2 * (48271 : Int64)) / (2147483647 : Int64) * (2147483647 : Int64)) * (48271 : Int64)) / (2147483647 : Int64) * (2147483647 : Int64)) * (48271 : Int64)) / (2147483647 : Int64) * (2147483647 : Int64)) x4 (0 : Int32) ((1 : Int32) + (((((((x2 * (48271 : Int64)) - (x2 * (48271 : Int64)) / (2147483647 : Int64) * (2147483647 : Int64)) * (48271 : Int64)) - (((x2 * (48271 : Int64)) - (x2 * (48271 : Int64)) / (2147483647 : Int64) * (2147483647 : Int64)) * (48271 : Int64)) / (2147483647 : Int64) * (2147483647 : Int64)) * (48271 : Int64)) - (((((x2 * (48271 : Int64)) - (x2 * (48271 : Int64)) / (2147483647 : Int64) * (2147483647 : Int64)) * (48271 : Int64)) - (((x2 * (48271 : Int64)) - (x2 * (48271 : Int64)) / (2147483647 : Int64) * (2147483647 : Int64)) * (48271 : Int64)) / (2147483647 : Int64) * (2147483647 : Int64)) * (48271 : Int64)) / (2147483647 : Int64) * (2147483647 : Int64)) - ((((((x2 * (48271 : Int64)) - (x2 * (48271 : Int64)) / (2147483647 : Int64) * (2147483647 : Int64)) * (48271 : Int64)) - (((x2 * (48271 : Int64)) - (x2 * (48271 : Int64)) / (2147483647 : Int64) * (2147483647 : Int64)) * (48271 : Int64)) / (2147483647 : Int64) * (2147483647 : Int64)) * (48271 : Int64)) - (((((x2 * (48271 : Int64)) - (x2 * (48271 : Int64)) / (2147483647 : Int64) * (2147483647 : Int64)) * (48271 : Int64)) - (((x2 * (48271 : Int64)) - (x2 * (48271 : Int64)) / (2147483647 : Int64) * (2147483647 : Int64)) * (48271 : Int64)) / (2147483647 : Int64) * (2147483647 : Int64)) * (48271 : Int64)) / (2147483647 : Int64) * (2147483647 : Int64)) / (9 : Int64) * (9 : Int64)).toInt32) ((1 : Int32) <<< ((((x2 * (48271 : Int64)) - (x2 * (48271 : Int64)) / (2147483647 : Int64) * (2147483647 : Int64)) - ((x2 * (48271 : Int64)) - (x2 * (48271 : Int64)) / (2147483647 : Int64) * (2147483647 : Int64)) / v40.toInt64 * v40.toInt64).toInt32 &&& 31)) (some o)
    else
      B_X0_draw_110 k21 fu o S ((((((x2 * (48271 : Int64)) - (x2 * (48271 : Int64)) / (2147483647 : Int64) * (2147483647 : Int64)) * (48271 : Int64)) - (((x2 * (48271 : Int64)) - (x2 * (48271 : Int64)) / (2147483647 : Int64) * (2147483647 : Int64)) * (48271 : Int64)) / (2147483647 : Int64) * (2147483647 : Int64)) * (48271 : Int64)) - (((((x2 * (48271 : Int64)) - (x2 * (48271 : Int64)) / (2147483647 : Int64) * (2147483647 : Int64)) * (48271 : Int64)) - (((x2 * (48271 : Int64)) - (x2 * (48271 : Int64)) / (2147483647 : Int64) * (2147483647 : Int64)) * (48271 : Int64)) / (2147483647 : Int64) * (2147483647 : Int64)) * (48271 : Int64)) / (2147483647 : Int64) * (2147483647 : Int64)) x4 ((1 : Int32) <<< ((((((x2 * (48271 : Int64)) - (x2 * (48271 : Int64)) / (2147483647 : Int64) * (2147483647 : Int64)) * (48271 : Int64)) - (((x2 * (48271 : Int64)) - (x2 * (48271 : Int64)) / (2147483647 : Int64) * (2147483647 : Int64)) * (48271 : Int64)) / (2147483647 : Int64) * (2147483647 : Int64)) - ((((x2 * (48271 : Int64)) - (x2 * (48271 : Int64)) / (2147483647 : Int64) * (2147483647 : Int64)) * (48271 : Int64)) - (((x2 * (48271 : Int64)) - (x2 * (48271 : Int64)) / (2147483647 : Int64) * (2147483647 : Int64)) * (48271 : Int64)) / (2147483647 : Int64) * (2147483647 : Int64)) / v60.toInt64 * v60.toInt64).toInt32 &&& 31)) ((1 : Int32) + (((((((x2 * (48271 : Int64)) - (x2 * (48271 : Int64)) / (2147483647 : Int64) * (2147483647 : Int64)) * (48271 : Int64)) - (((x2 * (48271 : Int64)) - (x2 * (48271 : Int64)) / (2147483647 : Int64) * (2147483647 : Int64)) * (48271 : Int64)) / (2147483647 : Int64) * (2147483647 : Int64)) * (48271 : Int64)) - (((((x2 * (48271 : Int64)) - (x2 * (48271 : Int64)) / (2147483647 : Int64) * (2147483647 : Int64)) * (48271 : Int64)) - (((x2 * (48271 : Int64)) - (x2 * (48271 : Int64)) / (2147483647 : Int64) * (2147483647 : Int64)) * (48271 : Int64)) / (2147483647 : Int64) * (2147483647 : Int64)) * (48271 : Int64)) / (2147483647 : Int64) * (2147483647 : Int64)) - ((((((x2 * (48271 : Int64)) - (x2 * (48271 : Int64)) / (2147483647 : Int64) * (2147483647 : Int64)) * (48271 : Int64)) - (((x2 * (48271 : Int64)) - (x2 * (48271 : Int64)) / (2147483647 : Int64) * (2147483647 : Int64)) * (48271 : Int64)) / (2147483647 : Int64) * (2147483647 : Int64)) * (48271 : Int64)) - (((((x2 * (48271 : Int64)) - (x2 * (48271 : Int64)) / (2147483647 : Int64) * (2147483647 : Int64)) * (48271 : Int64)) - (((x2 * (48271 : Int64)) - (x2 * (48271 : Int64)) / (2147483647 : Int64) * (2147483647 : Int64)) * (48271 : Int64)) / (2147483647 : Int64) * (2147483647 : Int64)) * (48271 : Int64)) / (2147483647 : Int64) * (2147483647 : Int64)) / (9 : Int64) * (9 : Int64)).toInt32) ((1 : Int32) <<< ((((x2 * (48271 : Int64)) - (x2 * (48271 : Int64)) / (2147483647 : Int64) * (2147483647 : Int64)) - ((x2 * (48271 : Int64)) - (x2 * (48271 : Int64)) / (2147483647 : Int64) * (2147483647 : Int64)) / v40.toInt64 * v40.toInt64).toInt32 &&& 31)) (some o)
set_option maxRecDepth 100000 in
set_option maxHeartbeats 4000000 in
theorem wl_X0_draw_21 {E : Cx} {l : Launch} {res : Hp} {ad : Nat → Nat} {k21 : Hp → Int64 → Int32 → Option (Hp)} {fu : Nat} {o : Nat} {S : Hp} {x2 : Int64} {x4 : Int32} (K : Kx E cX0_draw RX0 (rmd 2 0 0)) (X : Bx E l yX0_draw 8 none 0 0 ad (QV res)) (hk21 : ∀ (S : Hp) (x2 : Int64) (x4 : Int32), k21 S x2 x4 = some res → J E 0 0 21 [(0, vR (some o)), (2, vJ x2), (4, vI x4)] [] S ad) (h : L_X0_draw_21 k21 fu o S x2 x4 = some res) : J E 0 0 21 [(0, vR (some o)), (2, vJ x2), (4, vI x4)] [] S ad := by
  refine j_iload K dX0_draw_21 2 rfl ?_
  refine j_bipush (v := (6 : Int32)) K dX0_draw_23 (by decide) ?_
  refine j_icmp_ge K dX0_draw_25 (fun c25 => ?_) (fun c25 => ?_)
  · replace h := it c25 h
    exact j_vret K X dX0_draw_120 h
  · replace h := ie c25 h
    refine j_lload_n K dX0_draw_28 rfl 1 rfl ?_
    refine j_ldc2 K dX0_draw_29 z746 ?_
    refine j_lmul K dX0_draw_32 ?_
    refine j_ldc2 K dX0_draw_33 z747 ?_
    refine j_lrem K dX0_draw_36 (by decide) ?_
    refine j_lstore_n (lv' := [(2, vJ ((x2 * (48271 : Int64)) - (x2 * (48271 : Int64)) / (2147483647 : Int64) * (2147483647 : Int64))), (0, vR (some o)), (4, vI x4)]) K dX0_draw_37 rfl X.2.2.1 (by decide) rfl ?_
    refine j_lload_n K dX0_draw_38 rfl 0 rfl ?_
    refine j_aload_n K dX0_draw_39 rfl 1 rfl ?_
    obtain ⟨v40, e40, h⟩ := bd h
    refine fgX0_9 K dX0_draw_40 e40 ?_
    refine j_i2l K dX0_draw_43 ?_
    have c44 : ¬ v40.toInt64 = 0 := fun q => by cases it q h
    replace h := ie c44 h
    refine j_lrem K dX0_draw_44 c44 ?_
    refine j_l2i K dX0_draw_45 ?_
    refine j_istore (lv' := [(5, vI ((((x2 * (48271 : Int64)) - (x2 * (48271 : Int64)) / (2147483647 : Int64) * (2147483647 : Int64)) - ((x2 * (48271 : Int64)) - (x2 * (48271 : Int64)) / (2147483647 : Int64) * (2147483647 : Int64)) / v40.toInt64 * v40.toInt64).toInt32)), (2, vJ ((x2 * (48271 : Int64)) - (x2 * (48271 : Int64)) / (2147483647 : Int64) * (2147483647 : Int64))), (0, vR (some o)), (4, vI x4)]) K dX0_draw_46 X.2.2.1 (by decide) rfl ?_
    refine j_lload_n K dX0_draw_48 rfl 1 rfl ?_
    refine j_ldc2 K dX0_draw_49 z746 ?_
    refine j_lmul K dX0_draw_52 ?_
    refine j_ldc2 K dX0_draw_53 z747 ?_
    refine j_lrem K dX0_draw_56 (by decide) ?_
    refine j_lstore_n (lv' := [(2, vJ ((((x2 * (48271 : Int64)) - (x2 * (48271 : Int64)) / (2147483647 : Int64) * (2147483647 : Int64)) * (48271 : Int64)) - (((x2 * (48271 : Int64)) - (x2 * (48271 : Int64)) / (2147483647 : Int64) * (2147483647 : Int64)) * (48271 : Int64)) / (2147483647 : Int64) * (2147483647 : Int64))), (5, vI ((((x2 * (48271 : Int64)) - (x2 * (48271 : Int64)) / (2147483647 : Int64) * (2147483647 : Int64)) - ((x2 * (48271 : Int64)) - (x2 * (48271 : Int64)) / (2147483647 : Int64) * (2147483647 : Int64)) / v40.toInt64 * v40.toInt64).toInt32)), (0, vR (some o)), (4, vI x4)]) K dX0_draw_57 rfl X.2.2.1 (by decide) rfl ?_
    refine j_lload_n K dX0_draw_58 rfl 0 rfl ?_
    refine j_aload_n K dX0_draw_59 rfl 2 rfl ?_
    obtain ⟨v60, e60, h⟩ := bd h
    refine fgX0_9 K dX0_draw_60 e60 ?_
    refine j_i2l K dX0_draw_63 ?_
    have c64 : ¬ v60.toInt64 = 0 := fun q => by cases it q h
    replace h := ie c64 h
    refine j_lrem K dX0_draw_64 c64 ?_
    refine j_l2i K dX0_draw_65 ?_
    refine j_istore (lv' := [(6, vI ((((((x2 * (48271 : Int64)) - (x2 * (48271 : Int64)) / (2147483647 : Int64) * (2147483647 : Int64)) * (48271 : Int64)) - (((x2 * (48271 : Int64)) - (x2 * (48271 : Int64)) / (2147483647 : Int64) * (2147483647 : Int64)) * (48271 : Int64)) / (2147483647 : Int64) * (2147483647 : Int64)) - ((((x2 * (48271 : Int64)) - (x2 * (48271 : Int64)) / (2147483647 : Int64) * (2147483647 : Int64)) * (48271 : Int64)) - (((x2 * (48271 : Int64)) - (x2 * (48271 : Int64)) / (2147483647 : Int64) * (2147483647 : Int64)) * (48271 : Int64)) / (2147483647 : Int64) * (2147483647 : Int64)) / v60.toInt64 * v60.toInt64).toInt32)), (2, vJ ((((x2 * (48271 : Int64)) - (x2 * (48271 : Int64)) / (2147483647 : Int64) * (2147483647 : Int64)) * (48271 : Int64)) - (((x2 * (48271 : Int64)) - (x2 * (48271 : Int64)) / (2147483647 : Int64) * (2147483647 : Int64)) * (48271 : Int64)) / (2147483647 : Int64) * (2147483647 : Int64))), (5, vI ((((x2 * (48271 : Int64)) - (x2 * (48271 : Int64)) / (2147483647 : Int64) * (2147483647 : Int64)) - ((x2 * (48271 : Int64)) - (x2 * (48271 : Int64)) / (2147483647 : Int64) * (2147483647 : Int64)) / v40.toInt64 * v40.toInt64).toInt32)), (0, vR (some o)), (4, vI x4)]) K dX0_draw_66 X.2.2.1 (by decide) rfl ?_
    refine j_lload_n K dX0_draw_68 rfl 1 rfl ?_
    refine j_ldc2 K dX0_draw_69 z746 ?_
    refine j_lmul K dX0_draw_72 ?_
    refine j_ldc2 K dX0_draw_73 z747 ?_
    refine j_lrem K dX0_draw_76 (by decide) ?_
    refine j_lstore_n (lv' := [(2, vJ ((((((x2 * (48271 : Int64)) - (x2 * (48271 : Int64)) / (2147483647 : Int64) * (2147483647 : Int64)) * (48271 : Int64)) - (((x2 * (48271 : Int64)) - (x2 * (48271 : Int64)) / (2147483647 : Int64) * (2147483647 : Int64)) * (48271 : Int64)) / (2147483647 : Int64) * (2147483647 : Int64)) * (48271 : Int64)) - (((((x2 * (48271 : Int64)) - (x2 * (48271 : Int64)) / (2147483647 : Int64) * (2147483647 : Int64)) * (48271 : Int64)) - (((x2 * (48271 : Int64)) - (x2 * (48271 : Int64)) / (2147483647 : Int64) * (2147483647 : Int64)) * (48271 : Int64)) / (2147483647 : Int64) * (2147483647 : Int64)) * (48271 : Int64)) / (2147483647 : Int64) * (2147483647 : Int64))), (6, vI ((((((x2 * (48271 : Int64)) - (x2 * (48271 : Int64)) / (2147483647 : Int64) * (2147483647 : Int64)) * (48271 : Int64)) - (((x2 * (48271 : Int64)) - (x2 * (48271 : Int64)) / (2147483647 : Int64) * (2147483647 : Int64)) * (48271 : Int64)) / (2147483647 : Int64) * (2147483647 : Int64)) - ((((x2 * (48271 : Int64)) - (x2 * (48271 : Int64)) / (2147483647 : Int64) * (2147483647 : Int64)) * (48271 : Int64)) - (((x2 * (48271 : Int64)) - (x2 * (48271 : Int64)) / (2147483647 : Int64) * (2147483647 : Int64)) * (48271 : Int64)) / (2147483647 : Int64) * (2147483647 : Int64)) / v60.toInt64 * v60.toInt64).toInt32)), (5, vI ((((x2 * (48271 : Int64)) - (x2 * (48271 : Int64)) / (2147483647 : Int64) * (2147483647 : Int64)) - ((x2 * (48271 : Int64)) - (x2 * (48271 : Int64)) / (2147483647 : Int64) * (2147483647 : Int64)) / v40.toInt64 * v40.toInt64).toInt32)), (0, vR (some o)), (4, vI x4)]) K dX0_draw_77 rfl X.2.2.1 (by decide) rfl ?_
    refine j_iconst (v := (1 : Int32)) K dX0_draw_78 (by decide) ?_
    refine j_lload_n K dX0_draw_79 rfl 0 rfl ?_
    refine j_ldc2 K dX0_draw_80 z748 ?_
    refine j_lrem K dX0_draw_83 (by decide) ?_
    refine j_l2i K dX0_draw_84 ?_
    refine j_iadd K dX0_draw_85 ?_
    refine j_istore (lv' := [(7, vI ((1 : Int32) + (((((((x2 * (48271 : Int64)) - (x2 * (48271 : Int64)) / (2147483647 : Int64) * (2147483647 : Int64)) * (48271 : Int64)) - (((x2 * (48271 : Int64)) - (x2 * (48271 : Int64)) / (2147483647 : Int64) * (2147483647 : Int64)) * (48271 : Int64)) / (2147483647 : Int64) * (2147483647 : Int64)) * (48271 : Int64)) - (((((x2 * (48271 : Int64)) - (x2 * (48271 : Int64)) / (2147483647 : Int64) * (2147483647 : Int64)) * (48271 : Int64)) - (((x2 * (48271 : Int64)) - (x2 * (48271 : Int64)) / (2147483647 : Int64) * (2147483647 : Int64)) * (48271 : Int64)) / (2147483647 : Int64) * (2147483647 : Int64)) * (48271 : Int64)) / (2147483647 : Int64) * (2147483647 : Int64)) - ((((((x2 * (48271 : Int64)) - (x2 * (48271 : Int64)) / (2147483647 : Int64) * (2147483647 : Int64)) * (48271 : Int64)) - (((x2 * (48271 : Int64)) - (x2 * (48271 : Int64)) / (2147483647 : Int64) * (2147483647 : Int64)) * (48271 : Int64)) / (2147483647 : Int64) * (2147483647 : Int64)) * (48271 : Int64)) - (((((x2 * (48271 : Int64)) - (x2 * (48271 : Int64)) / (2147483647 : Int64) * (2147483647 : Int64)) * (48271 : Int64)) - (((x2 * (48271 : Int64)) - (x2 * (48271 : Int64)) / (2147483647 : Int64) * (2147483647 : Int64)) * (48271 : Int64)) / (2147483647 : Int64) * (2147483647 : Int64)) * (48271 : Int64)) / (2147483647 : Int64) * (2147483647 : Int64)) / (9 : Int64) * (9 : Int64)).toInt32)), (2, vJ ((((((x2 * (48271 : Int64)) - (x2 * (48271 : Int64)) / (2147483647 : Int64) * (2147483647 : Int64)) * (48271 : Int64)) - (((x2 * (48271 : Int64)) - (x2 * (48271 : Int64)) / (2147483647 : Int64) * (2147483647 : Int64)) * (48271 : Int64)) / (2147483647 : Int64) * (2147483647 : Int64)) * (48271 : Int64)) - (((((x2 * (48271 : Int64)) - (x2 * (48271 : Int64)) / (2147483647 : Int64) * (2147483647 : Int64)) * (48271 : Int64)) - (((x2 * (48271 : Int64)) - (x2 * (48271 : Int64)) / (2147483647 : Int64) * (2147483647 : Int64)) * (48271 : Int64)) / (2147483647 : Int64) * (2147483647 : Int64)) * (48271 : Int64)) / (2147483647 : Int64) * (2147483647 : Int64))), (6, vI ((((((x2 * (48271 : Int64)) - (x2 * (48271 : Int64)) / (2147483647 : Int64) * (2147483647 : Int64)) * (48271 : Int64)) - (((x2 * (48271 : Int64)) - (x2 * (48271 : Int64)) / (2147483647 : Int64) * (2147483647 : Int64)) * (48271 : Int64)) / (2147483647 : Int64) * (2147483647 : Int64)) - ((((x2 * (48271 : Int64)) - (x2 * (48271 : Int64)) / (2147483647 : Int64) * (2147483647 : Int64)) * (48271 : Int64)) - (((x2 * (48271 : Int64)) - (x2 * (48271 : Int64)) / (2147483647 : Int64) * (2147483647 : Int64)) * (48271 : Int64)) / (2147483647 : Int64) * (2147483647 : Int64)) / v60.toInt64 * v60.toInt64).toInt32)), (5, vI ((((x2 * (48271 : Int64)) - (x2 * (48271 : Int64)) / (2147483647 : Int64) * (2147483647 : Int64)) - ((x2 * (48271 : Int64)) - (x2 * (48271 : Int64)) / (2147483647 : Int64) * (2147483647 : Int64)) / v40.toInt64 * v40.toInt64).toInt32)), (0, vR (some o)), (4, vI x4)]) K dX0_draw_86 X.2.2.1 (by decide) rfl ?_
    refine j_aload_n K dX0_draw_88 rfl 4 rfl ?_
    refine j_iconst (v := (1 : Int32)) K dX0_draw_89 (by decide) ?_
    refine j_iload K dX0_draw_90 3 rfl ?_
    refine j_ishl K dX0_draw_92 ?_
    refine j_iload K dX0_draw_93 0 rfl ?_
    refine j_iload K dX0_draw_95 2 rfl ?_
    refine j_iload K dX0_draw_97 3 rfl ?_
    refine j_icmp_ne K dX0_draw_99 (fun c99 => ?_) (fun c99 => ?_)
    · replace h := ie c99 h
      refine j_iconst (v := (1 : Int32)) K dX0_draw_106 (by decide) ?_
      refine j_iload K dX0_draw_107 2 rfl ?_
      refine j_ishl K dX0_draw_109 ?_
      exact j_sub [4, 1, 5] rfl (w_X0_draw_110 K X hk21 h)
    · replace h := it c99 h
      refine j_iconst (v := (0 : Int32)) K dX0_draw_102 (by decide) ?_
      refine j_goto K dX0_draw_103 ?_
      exact j_sub [4, 1, 5] rfl (w_X0_draw_110 K X hk21 h)
def B_X0_draw_21 (fu : Nat) (o : Nat) : Nat → Hp → Int64 → Int32 → Option (Hp)
  | 0 => fun _ _ _ => none
  | n + 1 => L_X0_draw_21 (B_X0_draw_21 fu o n) fu o
theorem w_X0_draw_21 {E : Cx} {l : Launch} {res : Hp} {ad : Nat → Nat} {fu : Nat} {o : Nat} (K : Kx E cX0_draw RX0 (rmd 2 0 0)) (X : Bx E l yX0_draw 8 none 0 0 ad (QV res)) : ∀ (n : Nat) (S : Hp) (x2 : Int64) (x4 : Int32), B_X0_draw_21 fu o n S x2 x4 = some res → J E 0 0 21 [(0, vR (some o)), (2, vJ x2), (4, vI x4)] [] S ad := by
  intro n
  induction n with
  | zero =>
    intro S x2 x4 h
    cases h
  | succ n ih =>
    intro S x2 x4 h
    exact wl_X0_draw_21 K X ih h
def F_X0_draw (fu : Nat) (S : Hp) (o : Nat) (x1 : Int32) : Option (Hp) :=
  (pI S (some o) 0 5 (0 : Int32)).bind fun S2 =>
  (gI S2 (some o) 0 0).bind fun v6 =>
  if 0 < v6 then
    B_X0_draw_21 fu o fu S2 (x1.toInt64 + (1 : Int64)) (0 : Int32)
  else
    some S2
set_option maxRecDepth 100000 in
set_option maxHeartbeats 4000000 in
theorem w_X0_draw {E : Cx} {l : Launch} {res : Hp} {ad : Nat → Nat} {fu : Nat} {S : Hp} {o : Nat} {x1 : Int32} (K : Kx E cX0_draw RX0 (rmd 2 0 0)) (X : Bx E l yX0_draw 8 none 0 0 ad (QV res)) (h : F_X0_draw fu S o x1 = some res) : J E 0 0 0 [(0, vR (some o)), (1, vI x1)] [] S ad := by
  refine j_aload_n K dX0_draw_0 rfl 0 rfl ?_
  refine j_iconst (v := (0 : Int32)) K dX0_draw_1 (by decide) ?_
  obtain ⟨S2, e2, h⟩ := bd h
  refine fpX0_28 K dX0_draw_2 e2 ?_
  refine j_aload_n K dX0_draw_5 rfl 0 rfl ?_
  obtain ⟨v6, e6, h⟩ := bd h
  refine fgX0_9 K dX0_draw_6 e6 ?_
  refine j_if_gt K dX0_draw_9 (fun c9 => ?_) (fun c9 => ?_)
  · replace h := it c9 h
    refine j_iload_n K dX0_draw_13 rfl 1 rfl ?_
    refine j_i2l K dX0_draw_14 ?_
    refine j_lconst (v := (1 : Int64)) K dX0_draw_15 (by decide) ?_
    refine j_ladd K dX0_draw_16 ?_
    refine j_lstore_n (lv' := [(2, vJ (x1.toInt64 + (1 : Int64))), (0, vR (some o)), (1, vI x1)]) K dX0_draw_17 rfl X.2.2.1 (by decide) rfl ?_
    refine j_iconst (v := (0 : Int32)) K dX0_draw_18 (by decide) ?_
    refine j_istore (lv' := [(4, vI (0 : Int32)), (2, vJ (x1.toInt64 + (1 : Int64))), (0, vR (some o)), (1, vI x1)]) K dX0_draw_19 X.2.2.1 (by decide) rfl ?_
    exact j_sub [2, 1, 0] rfl (w_X0_draw_21 K X _ _ _ _ h)
  · replace h := ie c9 h
    exact j_vret K X dX0_draw_12 h
theorem c_X0_draw {l : Launch} {fu : Nat} {S : Hp} {o : Nat} {x1 : Int32} {res : Hp} (h : F_X0_draw fu S o x1 = some res) : Ct l yX0_draw cX0_draw 8 none (rmd 2 0 0) 0 0 [vR (some o), vI x1] S (QV res) :=
  z_entry (by decide +kernel) (Nat.le_of_ble_eq_true rfl) (fun E ad K X => w_X0_draw K X h)

theorem dX7_hasBit_0 : decode cX7_hasBit 0 = .ok (.iload_n 0, 1) ∧ 0 + 1 = 1 := ⟨by decide +kernel, rfl⟩
theorem dX7_hasBit_1 : decode cX7_hasBit 1 = .ok (.iload_n 1, 1) ∧ 1 + 1 = 2 := ⟨by decide +kernel, rfl⟩
theorem dX7_hasBit_2 : decode cX7_hasBit 2 = .ok (.ishr, 1) ∧ 2 + 1 = 3 := ⟨by decide +kernel, rfl⟩
theorem dX7_hasBit_3 : decode cX7_hasBit 3 = .ok (.iconst 1, 1) ∧ 3 + 1 = 4 := ⟨by decide +kernel, rfl⟩
theorem dX7_hasBit_4 : decode cX7_hasBit 4 = .ok (.iand, 1) ∧ 4 + 1 = 5 := ⟨by decide +kernel, rfl⟩
theorem dX7_hasBit_5 : decode cX7_hasBit 5 = .ok (.iconst 1, 1) ∧ 5 + 1 = 6 := ⟨by decide +kernel, rfl⟩
theorem dX7_hasBit_6 : decode cX7_hasBit 6 = .ok (.if_icmp .ne 7, 3) ∧ 6 + 3 = 9 ∧ ((6 : Nat) : Int) + (7) = ((13 : Nat) : Int) := ⟨by decide +kernel, rfl, by decide⟩
theorem dX7_hasBit_9 : decode cX7_hasBit 9 = .ok (.iconst 1, 1) ∧ 9 + 1 = 10 := ⟨by decide +kernel, rfl⟩
theorem dX7_hasBit_10 : decode cX7_hasBit 10 = .ok (.goto 4, 3) ∧ ((10 : Nat) : Int) + (4) = ((14 : Nat) : Int) := ⟨by decide +kernel, by decide⟩
theorem dX7_hasBit_13 : decode cX7_hasBit 13 = .ok (.iconst 0, 1) ∧ 13 + 1 = 14 := ⟨by decide +kernel, rfl⟩
theorem dX7_hasBit_14 : decode cX7_hasBit 14 = .ok (.ireturn, 1) := by decide +kernel
def B_X7_hasBit_14 (S : Hp) (s0 : Int32) : Option (Int32 × Hp) :=
  zb s0 S
set_option maxRecDepth 100000 in
set_option maxHeartbeats 4000000 in
theorem w_X7_hasBit_14 {E : Cx} {l : Launch} {res : Int32 × Hp} {ad : Nat → Nat} {S : Hp} {s0 : Int32} (K : Kx E cX7_hasBit RX7 (rmd 0 0 0)) (X : Bx E l yX7_hasBit 2 (some .boolean) 0 0 ad (QI res)) (h : B_X7_hasBit_14 S s0 = some res) : J E 0 0 14 [] [vI s0] S ad := by
  exact j_zret K X dX7_hasBit_14 h
def F_X7_hasBit (S : Hp) (x0 : Int32) (x1 : Int32) : Option (Int32 × Hp) :=
  if ((x0 >>> (x1 &&& 31)) &&& (1 : Int32)) = (1 : Int32) then
    B_X7_hasBit_14 S (1 : Int32)
  else
    B_X7_hasBit_14 S (0 : Int32)
set_option maxRecDepth 100000 in
set_option maxHeartbeats 4000000 in
theorem w_X7_hasBit {E : Cx} {l : Launch} {res : Int32 × Hp} {ad : Nat → Nat} {S : Hp} {x0 : Int32} {x1 : Int32} (K : Kx E cX7_hasBit RX7 (rmd 0 0 0)) (X : Bx E l yX7_hasBit 2 (some .boolean) 0 0 ad (QI res)) (h : F_X7_hasBit S x0 x1 = some res) : J E 0 0 0 [(0, vI x0), (1, vI x1)] [] S ad := by
  refine j_iload_n K dX7_hasBit_0 rfl 0 rfl ?_
  refine j_iload_n K dX7_hasBit_1 rfl 1 rfl ?_
  refine j_ishr K dX7_hasBit_2 ?_
  refine j_iconst (v := (1 : Int32)) K dX7_hasBit_3 (by decide) ?_
  refine j_iand K dX7_hasBit_4 ?_
  refine j_iconst (v := (1 : Int32)) K dX7_hasBit_5 (by decide) ?_
  refine j_icmp_ne K dX7_hasBit_6 (fun c6 => ?_) (fun c6 => ?_)
  · replace h := ie c6 h
    refine j_iconst (v := (0 : Int32)) K dX7_hasBit_13 (by decide) ?_
    exact j_sub [] rfl (w_X7_hasBit_14 K X h)
  · replace h := it c6 h
    refine j_iconst (v := (1 : Int32)) K dX7_hasBit_9 (by decide) ?_
    refine j_goto K dX7_hasBit_10 ?_
    exact j_sub [] rfl (w_X7_hasBit_14 K X h)
theorem c_X7_hasBit {l : Launch} {S : Hp} {x0 : Int32} {x1 : Int32} {res : Int32 × Hp} (h : F_X7_hasBit S x0 x1 = some res) : Ct l yX7_hasBit cX7_hasBit 2 (some .boolean) (rmd 0 0 0) 0 0 [vI x0, vI x1] S (QI res) :=
  z_entry (by decide +kernel) (Nat.le_of_ble_eq_true rfl) (fun E ad K X => w_X7_hasBit K X h)

theorem dX0_wrongsWith_0 : decode cX0_wrongsWith 0 = .ok (.iconst 0, 1) ∧ 0 + 1 = 1 := ⟨by decide +kernel, rfl⟩
theorem dX0_wrongsWith_1 : decode cX0_wrongsWith 1 = .ok (.istore_n 3, 1) ∧ 1 + 1 = 2 := ⟨by decide +kernel, rfl⟩
theorem dX0_wrongsWith_2 : decode cX0_wrongsWith 2 = .ok (.iconst 0, 1) ∧ 2 + 1 = 3 := ⟨by decide +kernel, rfl⟩
theorem dX0_wrongsWith_3 : decode cX0_wrongsWith 3 = .ok (.istore 4, 2) ∧ 3 + 2 = 5 := ⟨by decide +kernel, rfl⟩
theorem dX0_wrongsWith_5 : decode cX0_wrongsWith 5 = .ok (.iload 4, 2) ∧ 5 + 2 = 7 := ⟨by decide +kernel, rfl⟩
theorem dX0_wrongsWith_7 : decode cX0_wrongsWith 7 = .ok (.aload_n 0, 1) ∧ 7 + 1 = 8 := ⟨by decide +kernel, rfl⟩
theorem dX0_wrongsWith_8 : decode cX0_wrongsWith 8 = .ok (.getfield 28, 3) ∧ 8 + 3 = 11 := ⟨by decide +kernel, rfl⟩
theorem dX0_wrongsWith_11 : decode cX0_wrongsWith 11 = .ok (.if_icmp .ge 33, 3) ∧ 11 + 3 = 14 ∧ ((11 : Nat) : Int) + (33) = ((44 : Nat) : Int) := ⟨by decide +kernel, rfl, by decide⟩
theorem dX0_wrongsWith_14 : decode cX0_wrongsWith 14 = .ok (.iload_n 3, 1) ∧ 14 + 1 = 15 := ⟨by decide +kernel, rfl⟩
theorem dX0_wrongsWith_15 : decode cX0_wrongsWith 15 = .ok (.aload_n 1, 1) ∧ 15 + 1 = 16 := ⟨by decide +kernel, rfl⟩
theorem dX0_wrongsWith_16 : decode cX0_wrongsWith 16 = .ok (.iload 4, 2) ∧ 16 + 2 = 18 := ⟨by decide +kernel, rfl⟩
theorem dX0_wrongsWith_18 : decode cX0_wrongsWith 18 = .ok (.invokestatic 61, 3) := by decide +kernel
theorem dX0_wrongsWith_21 : decode cX0_wrongsWith 21 = .ok (.iload_n 2, 1) ∧ 21 + 1 = 22 := ⟨by decide +kernel, rfl⟩
theorem dX0_wrongsWith_22 : decode cX0_wrongsWith 22 = .ok (.invokestatic 83, 3) := by decide +kernel
theorem dX0_wrongsWith_25 : decode cX0_wrongsWith 25 = .ok (.ifCond .eq 10, 3) ∧ 25 + 3 = 28 ∧ ((25 : Nat) : Int) + (10) = ((35 : Nat) : Int) := ⟨by decide +kernel, rfl, by decide⟩
theorem dX0_wrongsWith_28 : decode cX0_wrongsWith 28 = .ok (.iconst 1, 1) ∧ 28 + 1 = 29 := ⟨by decide +kernel, rfl⟩
theorem dX0_wrongsWith_29 : decode cX0_wrongsWith 29 = .ok (.iload 4, 2) ∧ 29 + 2 = 31 := ⟨by decide +kernel, rfl⟩
theorem dX0_wrongsWith_31 : decode cX0_wrongsWith 31 = .ok (.ishl, 1) ∧ 31 + 1 = 32 := ⟨by decide +kernel, rfl⟩
theorem dX0_wrongsWith_32 : decode cX0_wrongsWith 32 = .ok (.goto 4, 3) ∧ ((32 : Nat) : Int) + (4) = ((36 : Nat) : Int) := ⟨by decide +kernel, by decide⟩
theorem dX0_wrongsWith_35 : decode cX0_wrongsWith 35 = .ok (.iconst 0, 1) ∧ 35 + 1 = 36 := ⟨by decide +kernel, rfl⟩
theorem dX0_wrongsWith_36 : decode cX0_wrongsWith 36 = .ok (.ior, 1) ∧ 36 + 1 = 37 := ⟨by decide +kernel, rfl⟩
theorem dX0_wrongsWith_37 : decode cX0_wrongsWith 37 = .ok (.istore_n 3, 1) ∧ 37 + 1 = 38 := ⟨by decide +kernel, rfl⟩
theorem dX0_wrongsWith_38 : decode cX0_wrongsWith 38 = .ok (.iinc 4 1, 3) ∧ 38 + 3 = 41 := ⟨by decide +kernel, rfl⟩
theorem dX0_wrongsWith_41 : decode cX0_wrongsWith 41 = .ok (.goto (-36), 3) ∧ ((41 : Nat) : Int) + (-36) = ((5 : Nat) : Int) := ⟨by decide +kernel, by decide⟩
theorem dX0_wrongsWith_44 : decode cX0_wrongsWith 44 = .ok (.iload_n 3, 1) ∧ 44 + 1 = 45 := ⟨by decide +kernel, rfl⟩
theorem dX0_wrongsWith_45 : decode cX0_wrongsWith 45 = .ok (.ireturn, 1) := by decide +kernel
def B_X0_wrongsWith_36 (k5 : Hp → Int32 → Int32 → Option (Int32 × Hp)) (fu : Nat) (o : Nat) (S : Hp) (x1 : Option Nat) (x2 : Int32) (x4 : Int32) (s0 : Int32) (s1 : Int32) : Option (Int32 × Hp) :=
  k5 S (s1 ||| s0) (x4 + (1 : Int32))
set_option maxRecDepth 100000 in
set_option maxHeartbeats 4000000 in
theorem w_X0_wrongsWith_36 {E : Cx} {l : Launch} {res : Int32 × Hp} {ad : Nat → Nat} {k5 : Hp → Int32 → Int32 → Option (Int32 × Hp)} {fu : Nat} {o : Nat} {S : Hp} {x1 : Option Nat} {x2 : Int32} {x4 : Int32} {s0 : Int32} {s1 : Int32} (K : Kx E cX0_wrongsWith RX0 (rmd 1 0 0)) (X : Bx E l yX0_wrongsWith 5 (some .int) 0 0 ad (QI res)) (hk5 : ∀ (S : Hp) (x3 : Int32) (x4 : Int32), k5 S x3 x4 = some res → J E 0 0 5 [(0, vR (some o)), (1, vR x1), (2, vI x2), (3, vI x3), (4, vI x4)] [] S ad) (h : B_X0_wrongsWith_36 k5 fu o S x1 x2 x4 s0 s1 = some res) : J E 0 0 36 [(0, vR (some o)), (1, vR x1), (2, vI x2), (4, vI x4)] [vI s0, vI s1] S ad := by
  refine j_ior K dX0_wrongsWith_36 ?_
  refine j_istore_n (lv' := [(3, vI (s1 ||| s0)), (0, vR (some o)), (1, vR x1), (2, vI x2), (4, vI x4)]) K dX0_wrongsWith_37 rfl X.2.2.1 (by decide) rfl ?_
  refine j_iinc (q := 4) (v := (x4 + (1 : Int32))) (lv' := [(4, vI (x4 + (1 : Int32))), (3, vI (s1 ||| s0)), (0, vR (some o)), (1, vR x1), (2, vI x2)]) K dX0_wrongsWith_38 rfl rfl X.2.2.1 (by decide) rfl ?_
  refine j_goto K dX0_wrongsWith_41 ?_
  exact j_sub [2, 3, 4, 1, 0] rfl (hk5 _ _ _ h)
def L_X0_wrongsWith_5 (k5 : Hp → Int32 → Int32 → Option (Int32 × Hp)) (fu : Nat) (o : Nat) (x1 : Option Nat) (x2 : Int32) (S : Hp) (x3 : Int32) (x4 : Int32) : Option (Int32 × Hp) :=
  (gI S (some o) 0 5).bind fun v8 =>
  if v8 ≤ x4 then
    some (x3, S)
  else
    b2 (F_X7_at S x1 x4) fun v18 S18 =>
    b2 (F_X7_hasBit S18 v18 x2) fun v22 S22 =>
    if v22 = 0 then
      B_X0_wrongsWith_36 k5 fu o S22 x1 x2 x4 (0 : Int32) x3
    else
      B_X0_wrongsWith_36 k5 fu o S22 x1 x2 x4 ((1 : Int32) <<< (x4 &&& 31)) x3
set_option maxRecDepth 100000 in
set_option maxHeartbeats 4000000 in
theorem wl_X0_wrongsWith_5 {E : Cx} {l : Launch} {res : Int32 × Hp} {ad : Nat → Nat} {k5 : Hp → Int32 → Int32 → Option (Int32 × Hp)} {fu : Nat} {o : Nat} {S : Hp} {x1 : Option Nat} {x2 : Int32} {x3 : Int32} {x4 : Int32} (K : Kx E cX0_wrongsWith RX0 (rmd 1 0 0)) (X : Bx E l yX0_wrongsWith 5 (some .int) 0 0 ad (QI res)) (hk5 : ∀ (S : Hp) (x3 : Int32) (x4 : Int32), k5 S x3 x4 = some res → J E 0 0 5 [(0, vR (some o)), (1, vR x1), (2, vI x2), (3, vI x3), (4, vI x4)] [] S ad) (h : L_X0_wrongsWith_5 k5 fu o x1 x2 S x3 x4 = some res) : J E 0 0 5 [(0, vR (some o)), (1, vR x1), (2, vI x2), (3, vI x3), (4, vI x4)] [] S ad := by
  refine j_iload K dX0_wrongsWith_5 4 rfl ?_
  refine j_aload_n K dX0_wrongsWith_7 rfl 0 rfl ?_
  obtain ⟨v8, e8, h⟩ := bd h
  refine fgX0_28 K dX0_wrongsWith_8 e8 ?_
  refine j_icmp_ge K dX0_wrongsWith_11 (fun c11 => ?_) (fun c11 => ?_)
  · replace h := it c11 h
    refine j_iload_n K dX0_wrongsWith_44 rfl 3 rfl ?_
    exact j_iret K X dX0_wrongsWith_45 h
  · replace h := ie c11 h
    refine j_iload_n K dX0_wrongsWith_14 rfl 3 rfl ?_
    refine j_aload_n K dX0_wrongsWith_15 rfl 1 rfl ?_
    refine j_iload K dX0_wrongsWith_16 4 rfl ?_
    obtain ⟨v18, S18, e18, h⟩ := bd2 h
    refine j_cI (st := [vI x3]) K (r_SN (vs := [vR x1, vI x4]) (n := 2) (host := RX7) K (c_X7_at e18) dX0_wrongsWith_18 (List.mem_of_getElem? (i := 12) rfl) z227 z1 z228 ⟨zd_X7_at, rfl, rfl, rfl, ⟨Nat.le_of_ble_eq_true rfl, Nat.le_of_ble_eq_true rfl⟩, Nat.le_of_ble_eq_true rfl, Nat.le_of_ble_eq_true rfl, Nat.le_of_ble_eq_true rfl⟩) rfl ?_
    refine j_iload_n K dX0_wrongsWith_21 rfl 2 rfl ?_
    obtain ⟨v22, S22, e22, h⟩ := bd2 h
    refine j_cI (st := [vI x3]) K (r_SN (vs := [vI v18, vI x2]) (n := 2) (host := RX7) K (c_X7_hasBit e22) dX0_wrongsWith_22 (List.mem_of_getElem? (i := 14) rfl) z510 z1 z511 ⟨zd_X7_hasBit, rfl, rfl, rfl, ⟨Nat.le_of_ble_eq_true rfl, Nat.le_of_ble_eq_true rfl⟩, Nat.le_of_ble_eq_true rfl, Nat.le_of_ble_eq_true rfl, Nat.le_of_ble_eq_true rfl⟩) rfl ?_
    refine j_if_eq K dX0_wrongsWith_25 (fun c25 => ?_) (fun c25 => ?_)
    · replace h := it c25 h
      refine j_iconst (v := (0 : Int32)) K dX0_wrongsWith_35 (by decide) ?_
      exact j_sub [0, 1, 2, 4] rfl (w_X0_wrongsWith_36 K X hk5 h)
    · replace h := ie c25 h
      refine j_iconst (v := (1 : Int32)) K dX0_wrongsWith_28 (by decide) ?_
      refine j_iload K dX0_wrongsWith_29 4 rfl ?_
      refine j_ishl K dX0_wrongsWith_31 ?_
      refine j_goto K dX0_wrongsWith_32 ?_
      exact j_sub [0, 1, 2, 4] rfl (w_X0_wrongsWith_36 K X hk5 h)
def B_X0_wrongsWith_5 (fu : Nat) (o : Nat) (x1 : Option Nat) (x2 : Int32) : Nat → Hp → Int32 → Int32 → Option (Int32 × Hp)
  | 0 => fun _ _ _ => none
  | n + 1 => L_X0_wrongsWith_5 (B_X0_wrongsWith_5 fu o x1 x2 n) fu o x1 x2
theorem w_X0_wrongsWith_5 {E : Cx} {l : Launch} {res : Int32 × Hp} {ad : Nat → Nat} {fu : Nat} {o : Nat} {x1 : Option Nat} {x2 : Int32} (K : Kx E cX0_wrongsWith RX0 (rmd 1 0 0)) (X : Bx E l yX0_wrongsWith 5 (some .int) 0 0 ad (QI res)) : ∀ (n : Nat) (S : Hp) (x3 : Int32) (x4 : Int32), B_X0_wrongsWith_5 fu o x1 x2 n S x3 x4 = some res → J E 0 0 5 [(0, vR (some o)), (1, vR x1), (2, vI x2), (3, vI x3), (4, vI x4)] [] S ad := by
  intro n
  induction n with
  | zero =>
    intro S x3 x4 h
    cases h
  | succ n ih =>
    intro S x3 x4 h
    exact wl_X0_wrongsWith_5 K X ih h
def F_X0_wrongsWith (fu : Nat) (S : Hp) (o : Nat) (x1 : Option Nat) (x2 : Int32) : Option (Int32 × Hp) :=
  B_X0_wrongsWith_5 fu o x1 x2 fu S (0 : Int32) (0 : Int32)
set_option maxRecDepth 100000 in
set_option maxHeartbeats 4000000 in
theorem w_X0_wrongsWith {E : Cx} {l : Launch} {res : Int32 × Hp} {ad : Nat → Nat} {fu : Nat} {S : Hp} {o : Nat} {x1 : Option Nat} {x2 : Int32} (K : Kx E cX0_wrongsWith RX0 (rmd 1 0 0)) (X : Bx E l yX0_wrongsWith 5 (some .int) 0 0 ad (QI res)) (h : F_X0_wrongsWith fu S o x1 x2 = some res) : J E 0 0 0 [(0, vR (some o)), (1, vR x1), (2, vI x2)] [] S ad := by
  refine j_iconst (v := (0 : Int32)) K dX0_wrongsWith_0 (by decide) ?_
  refine j_istore_n (lv' := [(3, vI (0 : Int32)), (0, vR (some o)), (1, vR x1), (2, vI x2)]) K dX0_wrongsWith_1 rfl X.2.2.1 (by decide) rfl ?_
  refine j_iconst (v := (0 : Int32)) K dX0_wrongsWith_2 (by decide) ?_
  refine j_istore (lv' := [(4, vI (0 : Int32)), (3, vI (0 : Int32)), (0, vR (some o)), (1, vR x1), (2, vI x2)]) K dX0_wrongsWith_3 X.2.2.1 (by decide) rfl ?_
  exact j_sub [2, 3, 4, 1, 0] rfl (w_X0_wrongsWith_5 K X _ _ _ _ h)
theorem c_X0_wrongsWith {l : Launch} {fu : Nat} {S : Hp} {o : Nat} {x1 : Option Nat} {x2 : Int32} {res : Int32 × Hp} (h : F_X0_wrongsWith fu S o x1 x2 = some res) : Ct l yX0_wrongsWith cX0_wrongsWith 5 (some .int) (rmd 1 0 0) 0 0 [vR (some o), vR x1, vI x2] S (QI res) :=
  z_entry (by decide +kernel) (Nat.le_of_ble_eq_true rfl) (fun E ad K X => w_X0_wrongsWith K X h)

theorem dJ6_bitCount_0f7a4_0 : decode cJ6_bitCount_0f7a4 0 = .ok (.iload_n 0, 1) ∧ 0 + 1 = 1 := ⟨by decide +kernel, rfl⟩
theorem dJ6_bitCount_0f7a4_1 : decode cJ6_bitCount_0f7a4 1 = .ok (.iload_n 0, 1) ∧ 1 + 1 = 2 := ⟨by decide +kernel, rfl⟩
theorem dJ6_bitCount_0f7a4_2 : decode cJ6_bitCount_0f7a4 2 = .ok (.iconst 1, 1) ∧ 2 + 1 = 3 := ⟨by decide +kernel, rfl⟩
theorem dJ6_bitCount_0f7a4_3 : decode cJ6_bitCount_0f7a4 3 = .ok (.iushr, 1) ∧ 3 + 1 = 4 := ⟨by decide +kernel, rfl⟩
theorem dJ6_bitCount_0f7a4_4 : decode cJ6_bitCount_0f7a4 4 = .ok (.ldc_w 265, 3) ∧ 4 + 3 = 7 := ⟨by decide +kernel, rfl⟩
theorem dJ6_bitCount_0f7a4_7 : decode cJ6_bitCount_0f7a4 7 = .ok (.iand, 1) ∧ 7 + 1 = 8 := ⟨by decide +kernel, rfl⟩
theorem dJ6_bitCount_0f7a4_8 : decode cJ6_bitCount_0f7a4 8 = .ok (.isub, 1) ∧ 8 + 1 = 9 := ⟨by decide +kernel, rfl⟩
theorem dJ6_bitCount_0f7a4_9 : decode cJ6_bitCount_0f7a4 9 = .ok (.istore_n 0, 1) ∧ 9 + 1 = 10 := ⟨by decide +kernel, rfl⟩
theorem dJ6_bitCount_0f7a4_10 : decode cJ6_bitCount_0f7a4 10 = .ok (.iload_n 0, 1) ∧ 10 + 1 = 11 := ⟨by decide +kernel, rfl⟩
theorem dJ6_bitCount_0f7a4_11 : decode cJ6_bitCount_0f7a4 11 = .ok (.ldc_w 266, 3) ∧ 11 + 3 = 14 := ⟨by decide +kernel, rfl⟩
theorem dJ6_bitCount_0f7a4_14 : decode cJ6_bitCount_0f7a4 14 = .ok (.iand, 1) ∧ 14 + 1 = 15 := ⟨by decide +kernel, rfl⟩
theorem dJ6_bitCount_0f7a4_15 : decode cJ6_bitCount_0f7a4 15 = .ok (.iload_n 0, 1) ∧ 15 + 1 = 16 := ⟨by decide +kernel, rfl⟩
theorem dJ6_bitCount_0f7a4_16 : decode cJ6_bitCount_0f7a4 16 = .ok (.iconst 2, 1) ∧ 16 + 1 = 17 := ⟨by decide +kernel, rfl⟩
theorem dJ6_bitCount_0f7a4_17 : decode cJ6_bitCount_0f7a4 17 = .ok (.iushr, 1) ∧ 17 + 1 = 18 := ⟨by decide +kernel, rfl⟩
theorem dJ6_bitCount_0f7a4_18 : decode cJ6_bitCount_0f7a4 18 = .ok (.ldc_w 266, 3) ∧ 18 + 3 = 21 := ⟨by decide +kernel, rfl⟩
theorem dJ6_bitCount_0f7a4_21 : decode cJ6_bitCount_0f7a4 21 = .ok (.iand, 1) ∧ 21 + 1 = 22 := ⟨by decide +kernel, rfl⟩
theorem dJ6_bitCount_0f7a4_22 : decode cJ6_bitCount_0f7a4 22 = .ok (.iadd, 1) ∧ 22 + 1 = 23 := ⟨by decide +kernel, rfl⟩
theorem dJ6_bitCount_0f7a4_23 : decode cJ6_bitCount_0f7a4 23 = .ok (.istore_n 0, 1) ∧ 23 + 1 = 24 := ⟨by decide +kernel, rfl⟩
theorem dJ6_bitCount_0f7a4_24 : decode cJ6_bitCount_0f7a4 24 = .ok (.iload_n 0, 1) ∧ 24 + 1 = 25 := ⟨by decide +kernel, rfl⟩
theorem dJ6_bitCount_0f7a4_25 : decode cJ6_bitCount_0f7a4 25 = .ok (.iload_n 0, 1) ∧ 25 + 1 = 26 := ⟨by decide +kernel, rfl⟩
theorem dJ6_bitCount_0f7a4_26 : decode cJ6_bitCount_0f7a4 26 = .ok (.iconst 4, 1) ∧ 26 + 1 = 27 := ⟨by decide +kernel, rfl⟩
theorem dJ6_bitCount_0f7a4_27 : decode cJ6_bitCount_0f7a4 27 = .ok (.iushr, 1) ∧ 27 + 1 = 28 := ⟨by decide +kernel, rfl⟩
theorem dJ6_bitCount_0f7a4_28 : decode cJ6_bitCount_0f7a4 28 = .ok (.iadd, 1) ∧ 28 + 1 = 29 := ⟨by decide +kernel, rfl⟩
theorem dJ6_bitCount_0f7a4_29 : decode cJ6_bitCount_0f7a4 29 = .ok (.ldc_w 267, 3) ∧ 29 + 3 = 32 := ⟨by decide +kernel, rfl⟩
theorem dJ6_bitCount_0f7a4_32 : decode cJ6_bitCount_0f7a4 32 = .ok (.iand, 1) ∧ 32 + 1 = 33 := ⟨by decide +kernel, rfl⟩
theorem dJ6_bitCount_0f7a4_33 : decode cJ6_bitCount_0f7a4 33 = .ok (.istore_n 0, 1) ∧ 33 + 1 = 34 := ⟨by decide +kernel, rfl⟩
theorem dJ6_bitCount_0f7a4_34 : decode cJ6_bitCount_0f7a4 34 = .ok (.iload_n 0, 1) ∧ 34 + 1 = 35 := ⟨by decide +kernel, rfl⟩
theorem dJ6_bitCount_0f7a4_35 : decode cJ6_bitCount_0f7a4 35 = .ok (.iload_n 0, 1) ∧ 35 + 1 = 36 := ⟨by decide +kernel, rfl⟩
theorem dJ6_bitCount_0f7a4_36 : decode cJ6_bitCount_0f7a4 36 = .ok (.bipush 8, 2) ∧ 36 + 2 = 38 := ⟨by decide +kernel, rfl⟩
theorem dJ6_bitCount_0f7a4_38 : decode cJ6_bitCount_0f7a4 38 = .ok (.iushr, 1) ∧ 38 + 1 = 39 := ⟨by decide +kernel, rfl⟩
theorem dJ6_bitCount_0f7a4_39 : decode cJ6_bitCount_0f7a4 39 = .ok (.iadd, 1) ∧ 39 + 1 = 40 := ⟨by decide +kernel, rfl⟩
theorem dJ6_bitCount_0f7a4_40 : decode cJ6_bitCount_0f7a4 40 = .ok (.istore_n 0, 1) ∧ 40 + 1 = 41 := ⟨by decide +kernel, rfl⟩
theorem dJ6_bitCount_0f7a4_41 : decode cJ6_bitCount_0f7a4 41 = .ok (.iload_n 0, 1) ∧ 41 + 1 = 42 := ⟨by decide +kernel, rfl⟩
theorem dJ6_bitCount_0f7a4_42 : decode cJ6_bitCount_0f7a4 42 = .ok (.iload_n 0, 1) ∧ 42 + 1 = 43 := ⟨by decide +kernel, rfl⟩
theorem dJ6_bitCount_0f7a4_43 : decode cJ6_bitCount_0f7a4 43 = .ok (.bipush 16, 2) ∧ 43 + 2 = 45 := ⟨by decide +kernel, rfl⟩
theorem dJ6_bitCount_0f7a4_45 : decode cJ6_bitCount_0f7a4 45 = .ok (.iushr, 1) ∧ 45 + 1 = 46 := ⟨by decide +kernel, rfl⟩
theorem dJ6_bitCount_0f7a4_46 : decode cJ6_bitCount_0f7a4 46 = .ok (.iadd, 1) ∧ 46 + 1 = 47 := ⟨by decide +kernel, rfl⟩
theorem dJ6_bitCount_0f7a4_47 : decode cJ6_bitCount_0f7a4 47 = .ok (.istore_n 0, 1) ∧ 47 + 1 = 48 := ⟨by decide +kernel, rfl⟩
theorem dJ6_bitCount_0f7a4_48 : decode cJ6_bitCount_0f7a4 48 = .ok (.iload_n 0, 1) ∧ 48 + 1 = 49 := ⟨by decide +kernel, rfl⟩
theorem dJ6_bitCount_0f7a4_49 : decode cJ6_bitCount_0f7a4 49 = .ok (.bipush 63, 2) ∧ 49 + 2 = 51 := ⟨by decide +kernel, rfl⟩
theorem dJ6_bitCount_0f7a4_51 : decode cJ6_bitCount_0f7a4 51 = .ok (.iand, 1) ∧ 51 + 1 = 52 := ⟨by decide +kernel, rfl⟩
theorem dJ6_bitCount_0f7a4_52 : decode cJ6_bitCount_0f7a4 52 = .ok (.ireturn, 1) := by decide +kernel
def F_J6_bitCount_0f7a4 (S : Hp) (x0 : Int32) : Option (Int32 × Hp) :=
  some (((((((((x0 - ((x0.toUInt32 >>> ((1 : Int32).toUInt32 &&& Int32.toUInt32 31)).toInt32 &&& (1431655765 : Int32))) &&& (858993459 : Int32)) + (((x0 - ((x0.toUInt32 >>> ((1 : Int32).toUInt32 &&& Int32.toUInt32 31)).toInt32 &&& (1431655765 : Int32))).toUInt32 >>> ((2 : Int32).toUInt32 &&& Int32.toUInt32 31)).toInt32 &&& (858993459 : Int32))) + ((((x0 - ((x0.toUInt32 >>> ((1 : Int32).toUInt32 &&& Int32.toUInt32 31)).toInt32 &&& (1431655765 : Int32))) &&& (858993459 : Int32)) + (((x0 - ((x0.toUInt32 >>> ((1 : Int32).toUInt32 &&& Int32.toUInt32 31)).toInt32 &&& (1431655765 : Int32))).toUInt32 >>> ((2 : Int32).toUInt32 &&& Int32.toUInt32 31)).toInt32 &&& (858993459 : Int32))).toUInt32 >>> ((4 : Int32).toUInt32 &&& Int32.toUInt32 31)).toInt32) &&& (252645135 : Int32)) + ((((((x0 - ((x0.toUInt32 >>> ((1 : Int32).toUInt32 &&& Int32.toUInt32 31)).toInt32 &&& (1431655765 : Int32))) &&& (858993459 : Int32)) + (((x0 - ((x0.toUInt32 >>> ((1 : Int32).toUInt32 &&& Int32.toUInt32 31)).toInt32 &&& (1431655765 : Int32))).toUInt32 >>> ((2 : Int32).toUInt32 &&& Int32.toUInt32 31)).toInt32 &&& (858993459 : Int32))) + ((((x0 - ((x0.toUInt32 >>> ((1 : Int32).toUInt32 &&& Int32.toUInt32 31)).toInt32 &&& (1431655765 : Int32))) &&& (858993459 : Int32)) + (((x0 - ((x0.toUInt32 >>> ((1 : Int32).toUInt32 &&& Int32.toUInt32 31)).toInt32 &&& (1431655765 : Int32))).toUInt32 >>> ((2 : Int32).toUInt32 &&& Int32.toUInt32 31)).toInt32 &&& (858993459 : Int32))).toUInt32 >>> ((4 : Int32).toUInt32 &&& Int32.toUInt32 31)).toInt32) &&& (252645135 : Int32)).toUInt32 >>> ((8 : Int32).toUInt32 &&& Int32.toUInt32 31)).toInt32) + (((((((x0 - ((x0.toUInt32 >>> ((1 : Int32).toUInt32 &&& Int32.toUInt32 31)).toInt32 &&& (1431655765 : Int32))) &&& (858993459 : Int32)) + (((x0 - ((x0.toUInt32 >>> ((1 : Int32).toUInt32 &&& Int32.toUInt32 31)).toInt32 &&& (1431655765 : Int32))).toUInt32 >>> ((2 : Int32).toUInt32 &&& Int32.toUInt32 31)).toInt32 &&& (858993459 : Int32))) + ((((x0 - ((x0.toUInt32 >>> ((1 : Int32).toUInt32 &&& Int32.toUInt32 31)).toInt32 &&& (1431655765 : Int32))) &&& (858993459 : Int32)) + (((x0 - ((x0.toUInt32 >>> ((1 : Int32).toUInt32 &&& Int32.toUInt32 31)).toInt32 &&& (1431655765 : Int32))).toUInt32 >>> ((2 : Int32).toUInt32 &&& Int32.toUInt32 31)).toInt32 &&& (858993459 : Int32))).toUInt32 >>> ((4 : Int32).toUInt32 &&& Int32.toUInt32 31)).toInt32) &&& (252645135 : Int32)) + ((((((x0 - ((x0.toUInt32 >>> ((1 : Int32).toUInt32 &&& Int32.toUInt32 31)).toInt32 &&& (1431655765 : Int32))) &&& (858993459 : Int32)) + (((x0 - ((x0.toUInt32 >>> ((1 : Int32).toUInt32 &&& Int32.toUInt32 31)).toInt32 &&& (1431655765 : Int32))).toUInt32 >>> ((2 : Int32).toUInt32 &&& Int32.toUInt32 31)).toInt32 &&& (858993459 : Int32))) + ((((x0 - ((x0.toUInt32 >>> ((1 : Int32).toUInt32 &&& Int32.toUInt32 31)).toInt32 &&& (1431655765 : Int32))) &&& (858993459 : Int32)) + (((x0 - ((x0.toUInt32 >>> ((1 : Int32).toUInt32 &&& Int32.toUInt32 31)).toInt32 &&& (1431655765 : Int32))).toUInt32 >>> ((2 : Int32).toUInt32 &&& Int32.toUInt32 31)).toInt32 &&& (858993459 : Int32))).toUInt32 >>> ((4 : Int32).toUInt32 &&& Int32.toUInt32 31)).toInt32) &&& (252645135 : Int32)).toUInt32 >>> ((8 : Int32).toUInt32 &&& Int32.toUInt32 31)).toInt32).toUInt32 >>> ((16 : Int32).toUInt32 &&& Int32.toUInt32 31)).toInt32) &&& (63 : Int32)), S)
set_option maxRecDepth 100000 in
set_option maxHeartbeats 4000000 in
theorem w_J6_bitCount_0f7a4 {E : Cx} {l : Launch} {res : Int32 × Hp} {ad : Nat → Nat} {S : Hp} {x0 : Int32} (K : Kx E cJ6_bitCount_0f7a4 RJ6 (rmd 0 0 0)) (X : Bx E l yJ6_bitCount_0f7a4 1 (some .int) 0 0 ad (QI res)) (h : F_J6_bitCount_0f7a4 S x0 = some res) : J E 0 0 0 [(0, vI x0)] [] S ad := by
  refine j_iload_n K dJ6_bitCount_0f7a4_0 rfl 0 rfl ?_
  refine j_iload_n K dJ6_bitCount_0f7a4_1 rfl 0 rfl ?_
  refine j_iconst (v := (1 : Int32)) K dJ6_bitCount_0f7a4_2 (by decide) ?_
  refine j_iushr K dJ6_bitCount_0f7a4_3 ?_
  refine j_ldcw K dJ6_bitCount_0f7a4_4 z472 ?_
  refine j_iand K dJ6_bitCount_0f7a4_7 ?_
  refine j_isub K dJ6_bitCount_0f7a4_8 ?_
  refine j_istore_n (lv' := [(0, vI (x0 - ((x0.toUInt32 >>> ((1 : Int32).toUInt32 &&& Int32.toUInt32 31)).toInt32 &&& (1431655765 : Int32))))]) K dJ6_bitCount_0f7a4_9 rfl X.2.2.1 (by decide) rfl ?_
  refine j_iload_n K dJ6_bitCount_0f7a4_10 rfl 0 rfl ?_
  refine j_ldcw K dJ6_bitCount_0f7a4_11 z473 ?_
  refine j_iand K dJ6_bitCount_0f7a4_14 ?_
  refine j_iload_n K dJ6_bitCount_0f7a4_15 rfl 0 rfl ?_
  refine j_iconst (v := (2 : Int32)) K dJ6_bitCount_0f7a4_16 (by decide) ?_
  refine j_iushr K dJ6_bitCount_0f7a4_17 ?_
  refine j_ldcw K dJ6_bitCount_0f7a4_18 z473 ?_
  refine j_iand K dJ6_bitCount_0f7a4_21 ?_
  refine j_iadd K dJ6_bitCount_0f7a4_22 ?_
  refine j_istore_n (lv' := [(0, vI (((x0 - ((x0.toUInt32 >>> ((1 : Int32).toUInt32 &&& Int32.toUInt32 31)).toInt32 &&& (1431655765 : Int32))) &&& (858993459 : Int32)) + (((x0 - ((x0.toUInt32 >>> ((1 : Int32).toUInt32 &&& Int32.toUInt32 31)).toInt32 &&& (1431655765 : Int32))).toUInt32 >>> ((2 : Int32).toUInt32 &&& Int32.toUInt32 31)).toInt32 &&& (858993459 : Int32))))]) K dJ6_bitCount_0f7a4_23 rfl X.2.2.1 (by decide) rfl ?_
  refine j_iload_n K dJ6_bitCount_0f7a4_24 rfl 0 rfl ?_
  refine j_iload_n K dJ6_bitCount_0f7a4_25 rfl 0 rfl ?_
  refine j_iconst (v := (4 : Int32)) K dJ6_bitCount_0f7a4_26 (by decide) ?_
  refine j_iushr K dJ6_bitCount_0f7a4_27 ?_
  refine j_iadd K dJ6_bitCount_0f7a4_28 ?_
  refine j_ldcw K dJ6_bitCount_0f7a4_29 z474 ?_
  refine j_iand K dJ6_bitCount_0f7a4_32 ?_
  refine j_istore_n (lv' := [(0, vI (((((x0 - ((x0.toUInt32 >>> ((1 : Int32).toUInt32 &&& Int32.toUInt32 31)).toInt32 &&& (1431655765 : Int32))) &&& (858993459 : Int32)) + (((x0 - ((x0.toUInt32 >>> ((1 : Int32).toUInt32 &&& Int32.toUInt32 31)).toInt32 &&& (1431655765 : Int32))).toUInt32 >>> ((2 : Int32).toUInt32 &&& Int32.toUInt32 31)).toInt32 &&& (858993459 : Int32))) + ((((x0 - ((x0.toUInt32 >>> ((1 : Int32).toUInt32 &&& Int32.toUInt32 31)).toInt32 &&& (1431655765 : Int32))) &&& (858993459 : Int32)) + (((x0 - ((x0.toUInt32 >>> ((1 : Int32).toUInt32 &&& Int32.toUInt32 31)).toInt32 &&& (1431655765 : Int32))).toUInt32 >>> ((2 : Int32).toUInt32 &&& Int32.toUInt32 31)).toInt32 &&& (858993459 : Int32))).toUInt32 >>> ((4 : Int32).toUInt32 &&& Int32.toUInt32 31)).toInt32) &&& (252645135 : Int32)))]) K dJ6_bitCount_0f7a4_33 rfl X.2.2.1 (by decide) rfl ?_
  refine j_iload_n K dJ6_bitCount_0f7a4_34 rfl 0 rfl ?_
  refine j_iload_n K dJ6_bitCount_0f7a4_35 rfl 0 rfl ?_
  refine j_bipush (v := (8 : Int32)) K dJ6_bitCount_0f7a4_36 (by decide) ?_
  refine j_iushr K dJ6_bitCount_0f7a4_38 ?_
  refine j_iadd K dJ6_bitCount_0f7a4_39 ?_
  refine j_istore_n (lv' := [(0, vI ((((((x0 - ((x0.toUInt32 >>> ((1 : Int32).toUInt32 &&& Int32.toUInt32 31)).toInt32 &&& (1431655765 : Int32))) &&& (858993459 : Int32)) + (((x0 - ((x0.toUInt32 >>> ((1 : Int32).toUInt32 &&& Int32.toUInt32 31)).toInt32 &&& (1431655765 : Int32))).toUInt32 >>> ((2 : Int32).toUInt32 &&& Int32.toUInt32 31)).toInt32 &&& (858993459 : Int32))) + ((((x0 - ((x0.toUInt32 >>> ((1 : Int32).toUInt32 &&& Int32.toUInt32 31)).toInt32 &&& (1431655765 : Int32))) &&& (858993459 : Int32)) + (((x0 - ((x0.toUInt32 >>> ((1 : Int32).toUInt32 &&& Int32.toUInt32 31)).toInt32 &&& (1431655765 : Int32))).toUInt32 >>> ((2 : Int32).toUInt32 &&& Int32.toUInt32 31)).toInt32 &&& (858993459 : Int32))).toUInt32 >>> ((4 : Int32).toUInt32 &&& Int32.toUInt32 31)).toInt32) &&& (252645135 : Int32)) + ((((((x0 - ((x0.toUInt32 >>> ((1 : Int32).toUInt32 &&& Int32.toUInt32 31)).toInt32 &&& (1431655765 : Int32))) &&& (858993459 : Int32)) + (((x0 - ((x0.toUInt32 >>> ((1 : Int32).toUInt32 &&& Int32.toUInt32 31)).toInt32 &&& (1431655765 : Int32))).toUInt32 >>> ((2 : Int32).toUInt32 &&& Int32.toUInt32 31)).toInt32 &&& (858993459 : Int32))) + ((((x0 - ((x0.toUInt32 >>> ((1 : Int32).toUInt32 &&& Int32.toUInt32 31)).toInt32 &&& (1431655765 : Int32))) &&& (858993459 : Int32)) + (((x0 - ((x0.toUInt32 >>> ((1 : Int32).toUInt32 &&& Int32.toUInt32 31)).toInt32 &&& (1431655765 : Int32))).toUInt32 >>> ((2 : Int32).toUInt32 &&& Int32.toUInt32 31)).toInt32 &&& (858993459 : Int32))).toUInt32 >>> ((4 : Int32).toUInt32 &&& Int32.toUInt32 31)).toInt32) &&& (252645135 : Int32)).toUInt32 >>> ((8 : Int32).toUInt32 &&& Int32.toUInt32 31)).toInt32))]) K dJ6_bitCount_0f7a4_40 rfl X.2.2.1 (by decide) rfl ?_
  refine j_iload_n K dJ6_bitCount_0f7a4_41 rfl 0 rfl ?_
  refine j_iload_n K dJ6_bitCount_0f7a4_42 rfl 0 rfl ?_
  refine j_bipush (v := (16 : Int32)) K dJ6_bitCount_0f7a4_43 (by decide) ?_
  refine j_iushr K dJ6_bitCount_0f7a4_45 ?_
  refine j_iadd K dJ6_bitCount_0f7a4_46 ?_
  refine j_istore_n (lv' := [(0, vI (((((((x0 - ((x0.toUInt32 >>> ((1 : Int32).toUInt32 &&& Int32.toUInt32 31)).toInt32 &&& (1431655765 : Int32))) &&& (858993459 : Int32)) + (((x0 - ((x0.toUInt32 >>> ((1 : Int32).toUInt32 &&& Int32.toUInt32 31)).toInt32 &&& (1431655765 : Int32))).toUInt32 >>> ((2 : Int32).toUInt32 &&& Int32.toUInt32 31)).toInt32 &&& (858993459 : Int32))) + ((((x0 - ((x0.toUInt32 >>> ((1 : Int32).toUInt32 &&& Int32.toUInt32 31)).toInt32 &&& (1431655765 : Int32))) &&& (858993459 : Int32)) + (((x0 - ((x0.toUInt32 >>> ((1 : Int32).toUInt32 &&& Int32.toUInt32 31)).toInt32 &&& (1431655765 : Int32))).toUInt32 >>> ((2 : Int32).toUInt32 &&& Int32.toUInt32 31)).toInt32 &&& (858993459 : Int32))).toUInt32 >>> ((4 : Int32).toUInt32 &&& Int32.toUInt32 31)).toInt32) &&& (252645135 : Int32)) + ((((((x0 - ((x0.toUInt32 >>> ((1 : Int32).toUInt32 &&& Int32.toUInt32 31)).toInt32 &&& (1431655765 : Int32))) &&& (858993459 : Int32)) + (((x0 - ((x0.toUInt32 >>> ((1 : Int32).toUInt32 &&& Int32.toUInt32 31)).toInt32 &&& (1431655765 : Int32))).toUInt32 >>> ((2 : Int32).toUInt32 &&& Int32.toUInt32 31)).toInt32 &&& (858993459 : Int32))) + ((((x0 - ((x0.toUInt32 >>> ((1 : Int32).toUInt32 &&& Int32.toUInt32 31)).toInt32 &&& (1431655765 : Int32))) &&& (858993459 : Int32)) + (((x0 - ((x0.toUInt32 >>> ((1 : Int32).toUInt32 &&& Int32.toUInt32 31)).toInt32 &&& (1431655765 : Int32))).toUInt32 >>> ((2 : Int32).toUInt32 &&& Int32.toUInt32 31)).toInt32 &&& (858993459 : Int32))).toUInt32 >>> ((4 : Int32).toUInt32 &&& Int32.toUInt32 31)).toInt32) &&& (252645135 : Int32)).toUInt32 >>> ((8 : Int32).toUInt32 &&& Int32.toUInt32 31)).toInt32) + (((((((x0 - ((x0.toUInt32 >>> ((1 : Int32).toUInt32 &&& Int32.toUInt32 31)).toInt32 &&& (1431655765 : Int32))) &&& (858993459 : Int32)) + (((x0 - ((x0.toUInt32 >>> ((1 : Int32).toUInt32 &&& Int32.toUInt32 31)).toInt32 &&& (1431655765 : Int32))).toUInt32 >>> ((2 : Int32).toUInt32 &&& Int32.toUInt32 31)).toInt32 &&& (858993459 : Int32))) + ((((x0 - ((x0.toUInt32 >>> ((1 : Int32).toUInt32 &&& Int32.toUInt32 31)).toInt32 &&& (1431655765 : Int32))) &&& (858993459 : Int32)) + (((x0 - ((x0.toUInt32 >>> ((1 : Int32).toUInt32 &&& Int32.toUInt32 31)).toInt32 &&& (1431655765 : Int32))).toUInt32 >>> ((2 : Int32).toUInt32 &&& Int32.toUInt32 31)).toInt32 &&& (858993459 : Int32))).toUInt32 >>> ((4 : Int32).toUInt32 &&& Int32.toUInt32 31)).toInt32) &&& (252645135 : Int32)) + ((((((x0 - ((x0.toUInt32 >>> ((1 : Int32).toUInt32 &&& Int32.toUInt32 31)).toInt32 &&& (1431655765 : Int32))) &&& (858993459 : Int32)) + (((x0 - ((x0.toUInt32 >>> ((1 : Int32).toUInt32 &&& Int32.toUInt32 31)).toInt32 &&& (1431655765 : Int32))).toUInt32 >>> ((2 : Int32).toUInt32 &&& Int32.toUInt32 31)).toInt32 &&& (858993459 : Int32))) + ((((x0 - ((x0.toUInt32 >>> ((1 : Int32).toUInt32 &&& Int32.toUInt32 31)).toInt32 &&& (1431655765 : Int32))) &&& (858993459 : Int32)) + (((x0 - ((x0.toUInt32 >>> ((1 : Int32).toUInt32 &&& Int32.toUInt32 31)).toInt32 &&& (1431655765 : Int32))).toUInt32 >>> ((2 : Int32).toUInt32 &&& Int32.toUInt32 31)).toInt32 &&& (858993459 : Int32))).toUInt32 >>> ((4 : Int32).toUInt32 &&& Int32.toUInt32 31)).toInt32) &&& (252645135 : Int32)).toUInt32 >>> ((8 : Int32).toUInt32 &&& Int32.toUInt32 31)).toInt32).toUInt32 >>> ((16 : Int32).toUInt32 &&& Int32.toUInt32 31)).toInt32))]) K dJ6_bitCount_0f7a4_47 rfl X.2.2.1 (by decide) rfl ?_
  refine j_iload_n K dJ6_bitCount_0f7a4_48 rfl 0 rfl ?_
  refine j_bipush (v := (63 : Int32)) K dJ6_bitCount_0f7a4_49 (by decide) ?_
  refine j_iand K dJ6_bitCount_0f7a4_51 ?_
  exact j_iret K X dJ6_bitCount_0f7a4_52 h
theorem c_J6_bitCount_0f7a4 {l : Launch} {S : Hp} {x0 : Int32} {res : Int32 × Hp} (h : F_J6_bitCount_0f7a4 S x0 = some res) : Ct l yJ6_bitCount_0f7a4 cJ6_bitCount_0f7a4 1 (some .int) (rmd 0 0 0) 0 0 [vI x0] S (QI res) :=
  z_entry (by decide +kernel) (Nat.le_of_ble_eq_true rfl) (fun E ad K X => w_J6_bitCount_0f7a4 K X h)

theorem dX0_sightingsOf_0 : decode cX0_sightingsOf 0 = .ok (.aload_n 0, 1) ∧ 0 + 1 = 1 := ⟨by decide +kernel, rfl⟩
theorem dX0_sightingsOf_1 : decode cX0_sightingsOf 1 = .ok (.aload_n 0, 1) ∧ 1 + 1 = 2 := ⟨by decide +kernel, rfl⟩
theorem dX0_sightingsOf_2 : decode cX0_sightingsOf 2 = .ok (.getfield 31, 3) ∧ 2 + 3 = 5 := ⟨by decide +kernel, rfl⟩
theorem dX0_sightingsOf_5 : decode cX0_sightingsOf 5 = .ok (.iload_n 1, 1) ∧ 5 + 1 = 6 := ⟨by decide +kernel, rfl⟩
theorem dX0_sightingsOf_6 : decode cX0_sightingsOf 6 = .ok (.invokevirtual 86, 3) := by decide +kernel
theorem dX0_sightingsOf_9 : decode cX0_sightingsOf 9 = .ok (.aload_n 0, 1) ∧ 9 + 1 = 10 := ⟨by decide +kernel, rfl⟩
theorem dX0_sightingsOf_10 : decode cX0_sightingsOf 10 = .ok (.aload_n 0, 1) ∧ 10 + 1 = 11 := ⟨by decide +kernel, rfl⟩
theorem dX0_sightingsOf_11 : decode cX0_sightingsOf 11 = .ok (.getfield 37, 3) ∧ 11 + 3 = 14 := ⟨by decide +kernel, rfl⟩
theorem dX0_sightingsOf_14 : decode cX0_sightingsOf 14 = .ok (.iload_n 2, 1) ∧ 14 + 1 = 15 := ⟨by decide +kernel, rfl⟩
theorem dX0_sightingsOf_15 : decode cX0_sightingsOf 15 = .ok (.invokevirtual 86, 3) := by decide +kernel
theorem dX0_sightingsOf_18 : decode cX0_sightingsOf 18 = .ok (.iand, 1) ∧ 18 + 1 = 19 := ⟨by decide +kernel, rfl⟩
theorem dX0_sightingsOf_19 : decode cX0_sightingsOf 19 = .ok (.invokestatic 89, 3) := by decide +kernel
theorem dX0_sightingsOf_22 : decode cX0_sightingsOf 22 = .ok (.ireturn, 1) := by decide +kernel
def F_X0_sightingsOf (fu : Nat) (S : Hp) (o : Nat) (x1 : Int32) (x2 : Int32) : Option (Int32 × Hp) :=
  (gR S (some o) 0 6).bind fun v2 =>
  (ob S 0 (some o)).bind fun _ =>
  b2 (F_X0_wrongsWith fu S o v2 x1) fun v6 S6 =>
  (gR S6 (some o) 0 8).bind fun v11 =>
  (ob S6 0 (some o)).bind fun _ =>
  b2 (F_X0_wrongsWith fu S6 o v11 x2) fun v15 S15 =>
  b2 (F_J6_bitCount_0f7a4 S15 (v6 &&& v15)) fun v19 S19 =>
  some (v19, S19)
set_option maxRecDepth 100000 in
set_option maxHeartbeats 4000000 in
theorem w_X0_sightingsOf {E : Cx} {l : Launch} {res : Int32 × Hp} {ad : Nat → Nat} {fu : Nat} {S : Hp} {o : Nat} {x1 : Int32} {x2 : Int32} (K : Kx E cX0_sightingsOf RX0 (rmd 2 0 0)) (X : Bx E l yX0_sightingsOf 3 (some .int) 0 0 ad (QI res)) (h : F_X0_sightingsOf fu S o x1 x2 = some res) : J E 0 0 0 [(0, vR (some o)), (1, vI x1), (2, vI x2)] [] S ad := by
  refine j_aload_n K dX0_sightingsOf_0 rfl 0 rfl ?_
  refine j_aload_n K dX0_sightingsOf_1 rfl 0 rfl ?_
  obtain ⟨v2, e2, h⟩ := bd h
  refine fgX0_31 K dX0_sightingsOf_2 e2 ?_
  refine j_iload_n K dX0_sightingsOf_5 rfl 1 rfl ?_
  obtain ⟨w6, ew6, h⟩ := bd h
  have ho6 := obS ew6
  obtain ⟨v6, S6, e6, h⟩ := bd2 h
  refine j_cI (st := []) K (r_V (vs := [vR v2, vI x1]) (n := 2) (o := o) K (c_X0_wrongsWith e6) ho6 (by decide) rfl dX0_sightingsOf_6 z642 z506 z507 z2 z508 ⟨zd_X0_wrongsWith, rfl, rfl, rfl, ⟨Nat.le_of_ble_eq_true rfl, Nat.le_of_ble_eq_true rfl⟩, Nat.le_of_ble_eq_true rfl, Nat.le_of_ble_eq_true rfl, Nat.le_of_ble_eq_true rfl⟩) rfl ?_
  refine j_aload_n K dX0_sightingsOf_9 rfl 0 rfl ?_
  refine j_aload_n K dX0_sightingsOf_10 rfl 0 rfl ?_
  obtain ⟨v11, e11, h⟩ := bd h
  refine fgX0_37 K dX0_sightingsOf_11 e11 ?_
  refine j_iload_n K dX0_sightingsOf_14 rfl 2 rfl ?_
  obtain ⟨w15, ew15, h⟩ := bd h
  have ho15 := obS ew15
  obtain ⟨v15, S15, e15, h⟩ := bd2 h
  refine j_cI (st := [vI v6]) K (r_V (vs := [vR v11, vI x2]) (n := 2) (o := o) K (c_X0_wrongsWith e15) ho15 (by decide) rfl dX0_sightingsOf_15 z642 z506 z507 z2 z508 ⟨zd_X0_wrongsWith, rfl, rfl, rfl, ⟨Nat.le_of_ble_eq_true rfl, Nat.le_of_ble_eq_true rfl⟩, Nat.le_of_ble_eq_true rfl, Nat.le_of_ble_eq_true rfl, Nat.le_of_ble_eq_true rfl⟩) rfl ?_
  refine j_iand K dX0_sightingsOf_18 ?_
  obtain ⟨v19, S19, e19, h⟩ := bd2 h
  refine j_cI (st := []) K (r_S (vs := [vI (v6 &&& v15)]) (n := 1) K (c_J6_bitCount_0f7a4 e19) dX0_sightingsOf_19 z469 z470 z14 z471 ⟨zd_J6_bitCount_0f7a4, rfl, rfl, rfl, ⟨Nat.le_of_ble_eq_true rfl, Nat.le_of_ble_eq_true rfl⟩, Nat.le_of_ble_eq_true rfl, Nat.le_of_ble_eq_true rfl, Nat.le_of_ble_eq_true rfl⟩) rfl ?_
  exact j_iret K X dX0_sightingsOf_22 h
theorem c_X0_sightingsOf {l : Launch} {fu : Nat} {S : Hp} {o : Nat} {x1 : Int32} {x2 : Int32} {res : Int32 × Hp} (h : F_X0_sightingsOf fu S o x1 x2 = some res) : Ct l yX0_sightingsOf cX0_sightingsOf 3 (some .int) (rmd 2 0 0) 0 0 [vR (some o), vI x1, vI x2] S (QI res) :=
  z_entry (by decide +kernel) (Nat.le_of_ble_eq_true rfl) (fun E ad K X => w_X0_sightingsOf K X h)

theorem dX2_work_0 : decode cX2_work 0 = .ok (.iload_n 0, 1) ∧ 0 + 1 = 1 := ⟨by decide +kernel, rfl⟩
theorem dX2_work_1 : decode cX2_work 1 = .ok (.lookupswitch 158 #[(3, 121), (13, 83), (14, 97), (15, 111), (42, 154), (43, 146), (45, 150), (60, 124), (61, 135)], 83) := by decide +kernel
theorem dX2_work_84 : decode cX2_work 84 = .ok (.iload_n 1, 1) ∧ 84 + 1 = 85 := ⟨by decide +kernel, rfl⟩
theorem dX2_work_85 : decode cX2_work 85 = .ok (.ifCond .ne 7, 3) ∧ 85 + 3 = 88 ∧ ((85 : Nat) : Int) + (7) = ((92 : Nat) : Int) := ⟨by decide +kernel, rfl, by decide⟩
theorem dX2_work_88 : decode cX2_work 88 = .ok (.iload_n 2, 1) ∧ 88 + 1 = 89 := ⟨by decide +kernel, rfl⟩
theorem dX2_work_89 : decode cX2_work 89 = .ok (.ifCond .eq 7, 3) ∧ 89 + 3 = 92 ∧ ((89 : Nat) : Int) + (7) = ((96 : Nat) : Int) := ⟨by decide +kernel, rfl, by decide⟩
theorem dX2_work_92 : decode cX2_work 92 = .ok (.iconst 1, 1) ∧ 92 + 1 = 93 := ⟨by decide +kernel, rfl⟩
theorem dX2_work_93 : decode cX2_work 93 = .ok (.goto 4, 3) ∧ ((93 : Nat) : Int) + (4) = ((97 : Nat) : Int) := ⟨by decide +kernel, by decide⟩
theorem dX2_work_96 : decode cX2_work 96 = .ok (.iconst 0, 1) ∧ 96 + 1 = 97 := ⟨by decide +kernel, rfl⟩
theorem dX2_work_97 : decode cX2_work 97 = .ok (.ireturn, 1) := by decide +kernel
theorem dX2_work_98 : decode cX2_work 98 = .ok (.iload_n 1, 1) ∧ 98 + 1 = 99 := ⟨by decide +kernel, rfl⟩
theorem dX2_work_99 : decode cX2_work 99 = .ok (.ifCond .eq 11, 3) ∧ 99 + 3 = 102 ∧ ((99 : Nat) : Int) + (11) = ((110 : Nat) : Int) := ⟨by decide +kernel, rfl, by decide⟩
theorem dX2_work_102 : decode cX2_work 102 = .ok (.iload_n 2, 1) ∧ 102 + 1 = 103 := ⟨by decide +kernel, rfl⟩
theorem dX2_work_103 : decode cX2_work 103 = .ok (.ifCond .eq 7, 3) ∧ 103 + 3 = 106 ∧ ((103 : Nat) : Int) + (7) = ((110 : Nat) : Int) := ⟨by decide +kernel, rfl, by decide⟩
theorem dX2_work_106 : decode cX2_work 106 = .ok (.iconst 1, 1) ∧ 106 + 1 = 107 := ⟨by decide +kernel, rfl⟩
theorem dX2_work_107 : decode cX2_work 107 = .ok (.goto 4, 3) ∧ ((107 : Nat) : Int) + (4) = ((111 : Nat) : Int) := ⟨by decide +kernel, by decide⟩
theorem dX2_work_110 : decode cX2_work 110 = .ok (.iconst 0, 1) ∧ 110 + 1 = 111 := ⟨by decide +kernel, rfl⟩
theorem dX2_work_111 : decode cX2_work 111 = .ok (.ireturn, 1) := by decide +kernel
theorem dX2_work_112 : decode cX2_work 112 = .ok (.iload_n 1, 1) ∧ 112 + 1 = 113 := ⟨by decide +kernel, rfl⟩
theorem dX2_work_113 : decode cX2_work 113 = .ok (.ifCond .ne 7, 3) ∧ 113 + 3 = 116 ∧ ((113 : Nat) : Int) + (7) = ((120 : Nat) : Int) := ⟨by decide +kernel, rfl, by decide⟩
theorem dX2_work_116 : decode cX2_work 116 = .ok (.iconst 1, 1) ∧ 116 + 1 = 117 := ⟨by decide +kernel, rfl⟩
theorem dX2_work_117 : decode cX2_work 117 = .ok (.goto 4, 3) ∧ ((117 : Nat) : Int) + (4) = ((121 : Nat) : Int) := ⟨by decide +kernel, by decide⟩
theorem dX2_work_120 : decode cX2_work 120 = .ok (.iconst 0, 1) ∧ 120 + 1 = 121 := ⟨by decide +kernel, rfl⟩
theorem dX2_work_121 : decode cX2_work 121 = .ok (.ireturn, 1) := by decide +kernel
theorem dX2_work_122 : decode cX2_work 122 = .ok (.iload_n 1, 1) ∧ 122 + 1 = 123 := ⟨by decide +kernel, rfl⟩
theorem dX2_work_123 : decode cX2_work 123 = .ok (.ineg, 1) ∧ 123 + 1 = 124 := ⟨by decide +kernel, rfl⟩
theorem dX2_work_124 : decode cX2_work 124 = .ok (.ireturn, 1) := by decide +kernel
theorem dX2_work_125 : decode cX2_work 125 = .ok (.iload_n 1, 1) ∧ 125 + 1 = 126 := ⟨by decide +kernel, rfl⟩
theorem dX2_work_126 : decode cX2_work 126 = .ok (.iload_n 2, 1) ∧ 126 + 1 = 127 := ⟨by decide +kernel, rfl⟩
theorem dX2_work_127 : decode cX2_work 127 = .ok (.if_icmp .ge 7, 3) ∧ 127 + 3 = 130 ∧ ((127 : Nat) : Int) + (7) = ((134 : Nat) : Int) := ⟨by decide +kernel, rfl, by decide⟩
theorem dX2_work_130 : decode cX2_work 130 = .ok (.iconst 1, 1) ∧ 130 + 1 = 131 := ⟨by decide +kernel, rfl⟩
theorem dX2_work_131 : decode cX2_work 131 = .ok (.goto 4, 3) ∧ ((131 : Nat) : Int) + (4) = ((135 : Nat) : Int) := ⟨by decide +kernel, by decide⟩
theorem dX2_work_134 : decode cX2_work 134 = .ok (.iconst 0, 1) ∧ 134 + 1 = 135 := ⟨by decide +kernel, rfl⟩
theorem dX2_work_135 : decode cX2_work 135 = .ok (.ireturn, 1) := by decide +kernel
theorem dX2_work_136 : decode cX2_work 136 = .ok (.iload_n 1, 1) ∧ 136 + 1 = 137 := ⟨by decide +kernel, rfl⟩
theorem dX2_work_137 : decode cX2_work 137 = .ok (.iload_n 2, 1) ∧ 137 + 1 = 138 := ⟨by decide +kernel, rfl⟩
theorem dX2_work_138 : decode cX2_work 138 = .ok (.if_icmp .ne 7, 3) ∧ 138 + 3 = 141 ∧ ((138 : Nat) : Int) + (7) = ((145 : Nat) : Int) := ⟨by decide +kernel, rfl, by decide⟩
theorem dX2_work_141 : decode cX2_work 141 = .ok (.iconst 1, 1) ∧ 141 + 1 = 142 := ⟨by decide +kernel, rfl⟩
theorem dX2_work_142 : decode cX2_work 142 = .ok (.goto 4, 3) ∧ ((142 : Nat) : Int) + (4) = ((146 : Nat) : Int) := ⟨by decide +kernel, by decide⟩
theorem dX2_work_145 : decode cX2_work 145 = .ok (.iconst 0, 1) ∧ 145 + 1 = 146 := ⟨by decide +kernel, rfl⟩
theorem dX2_work_146 : decode cX2_work 146 = .ok (.ireturn, 1) := by decide +kernel
theorem dX2_work_147 : decode cX2_work 147 = .ok (.iload_n 1, 1) ∧ 147 + 1 = 148 := ⟨by decide +kernel, rfl⟩
theorem dX2_work_148 : decode cX2_work 148 = .ok (.iload_n 2, 1) ∧ 148 + 1 = 149 := ⟨by decide +kernel, rfl⟩
theorem dX2_work_149 : decode cX2_work 149 = .ok (.iadd, 1) ∧ 149 + 1 = 150 := ⟨by decide +kernel, rfl⟩
theorem dX2_work_150 : decode cX2_work 150 = .ok (.ireturn, 1) := by decide +kernel
theorem dX2_work_151 : decode cX2_work 151 = .ok (.iload_n 1, 1) ∧ 151 + 1 = 152 := ⟨by decide +kernel, rfl⟩
theorem dX2_work_152 : decode cX2_work 152 = .ok (.iload_n 2, 1) ∧ 152 + 1 = 153 := ⟨by decide +kernel, rfl⟩
theorem dX2_work_153 : decode cX2_work 153 = .ok (.isub, 1) ∧ 153 + 1 = 154 := ⟨by decide +kernel, rfl⟩
theorem dX2_work_154 : decode cX2_work 154 = .ok (.ireturn, 1) := by decide +kernel
theorem dX2_work_155 : decode cX2_work 155 = .ok (.iload_n 1, 1) ∧ 155 + 1 = 156 := ⟨by decide +kernel, rfl⟩
theorem dX2_work_156 : decode cX2_work 156 = .ok (.iload_n 2, 1) ∧ 156 + 1 = 157 := ⟨by decide +kernel, rfl⟩
theorem dX2_work_157 : decode cX2_work 157 = .ok (.imul, 1) ∧ 157 + 1 = 158 := ⟨by decide +kernel, rfl⟩
theorem dX2_work_158 : decode cX2_work 158 = .ok (.ireturn, 1) := by decide +kernel
theorem dX2_work_159 : decode cX2_work 159 = .ok (.iconst 0, 1) ∧ 159 + 1 = 160 := ⟨by decide +kernel, rfl⟩
theorem dX2_work_160 : decode cX2_work 160 = .ok (.ireturn, 1) := by decide +kernel
def B_X2_work_146 (S : Hp) (s0 : Int32) : Option (Int32 × Hp) :=
  some (s0, S)
set_option maxRecDepth 100000 in
set_option maxHeartbeats 4000000 in
theorem w_X2_work_146 {E : Cx} {l : Launch} {res : Int32 × Hp} {ad : Nat → Nat} {S : Hp} {s0 : Int32} (K : Kx E cX2_work RX2 (rmd 0 0 0)) (X : Bx E l yX2_work 3 (some .int) 0 0 ad (QI res)) (h : B_X2_work_146 S s0 = some res) : J E 0 0 146 [] [vI s0] S ad := by
  exact j_iret K X dX2_work_146 h
def B_X2_work_135 (S : Hp) (s0 : Int32) : Option (Int32 × Hp) :=
  some (s0, S)
set_option maxRecDepth 100000 in
set_option maxHeartbeats 4000000 in
theorem w_X2_work_135 {E : Cx} {l : Launch} {res : Int32 × Hp} {ad : Nat → Nat} {S : Hp} {s0 : Int32} (K : Kx E cX2_work RX2 (rmd 0 0 0)) (X : Bx E l yX2_work 3 (some .int) 0 0 ad (QI res)) (h : B_X2_work_135 S s0 = some res) : J E 0 0 135 [] [vI s0] S ad := by
  exact j_iret K X dX2_work_135 h
def B_X2_work_121 (S : Hp) (s0 : Int32) : Option (Int32 × Hp) :=
  some (s0, S)
set_option maxRecDepth 100000 in
set_option maxHeartbeats 4000000 in
theorem w_X2_work_121 {E : Cx} {l : Launch} {res : Int32 × Hp} {ad : Nat → Nat} {S : Hp} {s0 : Int32} (K : Kx E cX2_work RX2 (rmd 0 0 0)) (X : Bx E l yX2_work 3 (some .int) 0 0 ad (QI res)) (h : B_X2_work_121 S s0 = some res) : J E 0 0 121 [] [vI s0] S ad := by
  exact j_iret K X dX2_work_121 h
def B_X2_work_111 (S : Hp) (s0 : Int32) : Option (Int32 × Hp) :=
  some (s0, S)
set_option maxRecDepth 100000 in
set_option maxHeartbeats 4000000 in
theorem w_X2_work_111 {E : Cx} {l : Launch} {res : Int32 × Hp} {ad : Nat → Nat} {S : Hp} {s0 : Int32} (K : Kx E cX2_work RX2 (rmd 0 0 0)) (X : Bx E l yX2_work 3 (some .int) 0 0 ad (QI res)) (h : B_X2_work_111 S s0 = some res) : J E 0 0 111 [] [vI s0] S ad := by
  exact j_iret K X dX2_work_111 h
def B_X2_work_110 (S : Hp) : Option (Int32 × Hp) :=
  B_X2_work_111 S (0 : Int32)
set_option maxRecDepth 100000 in
set_option maxHeartbeats 4000000 in
theorem w_X2_work_110 {E : Cx} {l : Launch} {res : Int32 × Hp} {ad : Nat → Nat} {S : Hp} (K : Kx E cX2_work RX2 (rmd 0 0 0)) (X : Bx E l yX2_work 3 (some .int) 0 0 ad (QI res)) (h : B_X2_work_110 S = some res) : J E 0 0 110 [] [] S ad := by
  refine j_iconst (v := (0 : Int32)) K dX2_work_110 (by decide) ?_
  exact w_X2_work_111 K X h
def B_X2_work_97 (S : Hp) (s0 : Int32) : Option (Int32 × Hp) :=
  some (s0, S)
set_option maxRecDepth 100000 in
set_option maxHeartbeats 4000000 in
theorem w_X2_work_97 {E : Cx} {l : Launch} {res : Int32 × Hp} {ad : Nat → Nat} {S : Hp} {s0 : Int32} (K : Kx E cX2_work RX2 (rmd 0 0 0)) (X : Bx E l yX2_work 3 (some .int) 0 0 ad (QI res)) (h : B_X2_work_97 S s0 = some res) : J E 0 0 97 [] [vI s0] S ad := by
  exact j_iret K X dX2_work_97 h
def B_X2_work_92 (S : Hp) : Option (Int32 × Hp) :=
  B_X2_work_97 S (1 : Int32)
set_option maxRecDepth 100000 in
set_option maxHeartbeats 4000000 in
theorem w_X2_work_92 {E : Cx} {l : Launch} {res : Int32 × Hp} {ad : Nat → Nat} {S : Hp} (K : Kx E cX2_work RX2 (rmd 0 0 0)) (X : Bx E l yX2_work 3 (some .int) 0 0 ad (QI res)) (h : B_X2_work_92 S = some res) : J E 0 0 92 [] [] S ad := by
  refine j_iconst (v := (1 : Int32)) K dX2_work_92 (by decide) ?_
  refine j_goto K dX2_work_93 ?_
  exact w_X2_work_97 K X h
def F_X2_work (S : Hp) (x0 : Int32) (x1 : Int32) (x2 : Int32) : Option (Int32 × Hp) :=
  if x0 = 3 then
    some ((-x1), S)
  else
  if x0 = 13 then
    if x1 = 0 then
      if x2 = 0 then
        B_X2_work_97 S (0 : Int32)
      else
        B_X2_work_92 S
    else
      B_X2_work_92 S
  else
  if x0 = 14 then
    if x1 = 0 then
      B_X2_work_110 S
    else
      if x2 = 0 then
        B_X2_work_110 S
      else
        B_X2_work_111 S (1 : Int32)
  else
  if x0 = 15 then
    if x1 = 0 then
      B_X2_work_121 S (1 : Int32)
    else
      B_X2_work_121 S (0 : Int32)
  else
  if x0 = 42 then
    some ((x1 * x2), S)
  else
  if x0 = 43 then
    some ((x1 + x2), S)
  else
  if x0 = 45 then
    some ((x1 - x2), S)
  else
  if x0 = 60 then
    if x2 ≤ x1 then
      B_X2_work_135 S (0 : Int32)
    else
      B_X2_work_135 S (1 : Int32)
  else
  if x0 = 61 then
    if x1 = x2 then
      B_X2_work_146 S (1 : Int32)
    else
      B_X2_work_146 S (0 : Int32)
  else
  some ((0 : Int32), S)
set_option maxRecDepth 100000 in
set_option maxHeartbeats 4000000 in
theorem w_X2_work {E : Cx} {l : Launch} {res : Int32 × Hp} {ad : Nat → Nat} {S : Hp} {x0 : Int32} {x1 : Int32} {x2 : Int32} (K : Kx E cX2_work RX2 (rmd 0 0 0)) (X : Bx E l yX2_work 3 (some .int) 0 0 ad (QI res)) (h : F_X2_work S x0 x1 x2 = some res) : J E 0 0 0 [(0, vI x0), (1, vI x1), (2, vI x2)] [] S ad := by
  refine j_iload_n K dX2_work_0 rfl 0 rfl ?_
  by_cases c1_3 : x0 = 3
  · replace h := it c1_3 h
    have t1 : x0.toInt = 3 := by rw [c1_3]; rfl
    refine j_look (tgt := 122) K dX2_work_1 (by decide) (by first | (rw [t1]; rfl) | rw [t1]) (by decide) ?_
    refine j_iload_n K dX2_work_122 rfl 1 rfl ?_
    refine j_ineg K dX2_work_123 ?_
    exact j_iret K X dX2_work_124 h
  replace h := ie c1_3 h
  by_cases c1_13 : x0 = 13
  · replace h := it c1_13 h
    have t1 : x0.toInt = 13 := by rw [c1_13]; rfl
    refine j_look (tgt := 84) K dX2_work_1 (by decide) (by first | (rw [t1]; rfl) | rw [t1]) (by decide) ?_
    refine j_iload_n K dX2_work_84 rfl 1 rfl ?_
    refine j_if_ne K dX2_work_85 (fun c85 => ?_) (fun c85 => ?_)
    · replace h := ie c85 h
      exact j_sub [] rfl (w_X2_work_92 K X h)
    · replace h := it c85 h
      refine j_iload_n K dX2_work_88 rfl 2 rfl ?_
      refine j_if_eq K dX2_work_89 (fun c89 => ?_) (fun c89 => ?_)
      · replace h := it c89 h
        refine j_iconst (v := (0 : Int32)) K dX2_work_96 (by decide) ?_
        exact j_sub [] rfl (w_X2_work_97 K X h)
      · replace h := ie c89 h
        exact j_sub [] rfl (w_X2_work_92 K X h)
  replace h := ie c1_13 h
  by_cases c1_14 : x0 = 14
  · replace h := it c1_14 h
    have t1 : x0.toInt = 14 := by rw [c1_14]; rfl
    refine j_look (tgt := 98) K dX2_work_1 (by decide) (by first | (rw [t1]; rfl) | rw [t1]) (by decide) ?_
    refine j_iload_n K dX2_work_98 rfl 1 rfl ?_
    refine j_if_eq K dX2_work_99 (fun c99 => ?_) (fun c99 => ?_)
    · replace h := it c99 h
      exact j_sub [] rfl (w_X2_work_110 K X h)
    · replace h := ie c99 h
      refine j_iload_n K dX2_work_102 rfl 2 rfl ?_
      refine j_if_eq K dX2_work_103 (fun c103 => ?_) (fun c103 => ?_)
      · replace h := it c103 h
        exact j_sub [] rfl (w_X2_work_110 K X h)
      · replace h := ie c103 h
        refine j_iconst (v := (1 : Int32)) K dX2_work_106 (by decide) ?_
        refine j_goto K dX2_work_107 ?_
        exact j_sub [] rfl (w_X2_work_111 K X h)
  replace h := ie c1_14 h
  by_cases c1_15 : x0 = 15
  · replace h := it c1_15 h
    have t1 : x0.toInt = 15 := by rw [c1_15]; rfl
    refine j_look (tgt := 112) K dX2_work_1 (by decide) (by first | (rw [t1]; rfl) | rw [t1]) (by decide) ?_
    refine j_iload_n K dX2_work_112 rfl 1 rfl ?_
    refine j_if_ne K dX2_work_113 (fun c113 => ?_) (fun c113 => ?_)
    · replace h := ie c113 h
      refine j_iconst (v := (0 : Int32)) K dX2_work_120 (by decide) ?_
      exact j_sub [] rfl (w_X2_work_121 K X h)
    · replace h := it c113 h
      refine j_iconst (v := (1 : Int32)) K dX2_work_116 (by decide) ?_
      refine j_goto K dX2_work_117 ?_
      exact j_sub [] rfl (w_X2_work_121 K X h)
  replace h := ie c1_15 h
  by_cases c1_42 : x0 = 42
  · replace h := it c1_42 h
    have t1 : x0.toInt = 42 := by rw [c1_42]; rfl
    refine j_look (tgt := 155) K dX2_work_1 (by decide) (by first | (rw [t1]; rfl) | rw [t1]) (by decide) ?_
    refine j_iload_n K dX2_work_155 rfl 1 rfl ?_
    refine j_iload_n K dX2_work_156 rfl 2 rfl ?_
    refine j_imul K dX2_work_157 ?_
    exact j_iret K X dX2_work_158 h
  replace h := ie c1_42 h
  by_cases c1_43 : x0 = 43
  · replace h := it c1_43 h
    have t1 : x0.toInt = 43 := by rw [c1_43]; rfl
    refine j_look (tgt := 147) K dX2_work_1 (by decide) (by first | (rw [t1]; rfl) | rw [t1]) (by decide) ?_
    refine j_iload_n K dX2_work_147 rfl 1 rfl ?_
    refine j_iload_n K dX2_work_148 rfl 2 rfl ?_
    refine j_iadd K dX2_work_149 ?_
    exact j_iret K X dX2_work_150 h
  replace h := ie c1_43 h
  by_cases c1_45 : x0 = 45
  · replace h := it c1_45 h
    have t1 : x0.toInt = 45 := by rw [c1_45]; rfl
    refine j_look (tgt := 151) K dX2_work_1 (by decide) (by first | (rw [t1]; rfl) | rw [t1]) (by decide) ?_
    refine j_iload_n K dX2_work_151 rfl 1 rfl ?_
    refine j_iload_n K dX2_work_152 rfl 2 rfl ?_
    refine j_isub K dX2_work_153 ?_
    exact j_iret K X dX2_work_154 h
  replace h := ie c1_45 h
  by_cases c1_60 : x0 = 60
  · replace h := it c1_60 h
    have t1 : x0.toInt = 60 := by rw [c1_60]; rfl
    refine j_look (tgt := 125) K dX2_work_1 (by decide) (by first | (rw [t1]; rfl) | rw [t1]) (by decide) ?_
    refine j_iload_n K dX2_work_125 rfl 1 rfl ?_
    refine j_iload_n K dX2_work_126 rfl 2 rfl ?_
    refine j_icmp_ge K dX2_work_127 (fun c127 => ?_) (fun c127 => ?_)
    · replace h := it c127 h
      refine j_iconst (v := (0 : Int32)) K dX2_work_134 (by decide) ?_
      exact j_sub [] rfl (w_X2_work_135 K X h)
    · replace h := ie c127 h
      refine j_iconst (v := (1 : Int32)) K dX2_work_130 (by decide) ?_
      refine j_goto K dX2_work_131 ?_
      exact j_sub [] rfl (w_X2_work_135 K X h)
  replace h := ie c1_60 h
  by_cases c1_61 : x0 = 61
  · replace h := it c1_61 h
    have t1 : x0.toInt = 61 := by rw [c1_61]; rfl
    refine j_look (tgt := 136) K dX2_work_1 (by decide) (by first | (rw [t1]; rfl) | rw [t1]) (by decide) ?_
    refine j_iload_n K dX2_work_136 rfl 1 rfl ?_
    refine j_iload_n K dX2_work_137 rfl 2 rfl ?_
    refine j_icmp_ne K dX2_work_138 (fun c138 => ?_) (fun c138 => ?_)
    · replace h := ie c138 h
      refine j_iconst (v := (0 : Int32)) K dX2_work_145 (by decide) ?_
      exact j_sub [] rfl (w_X2_work_146 K X h)
    · replace h := it c138 h
      refine j_iconst (v := (1 : Int32)) K dX2_work_141 (by decide) ?_
      refine j_goto K dX2_work_142 ?_
      exact j_sub [] rfl (w_X2_work_146 K X h)
  replace h := ie c1_61 h
  have t1_3 : x0.toInt ≠ 3 := swn rfl c1_3
  have t1_13 : x0.toInt ≠ 13 := swn rfl c1_13
  have t1_14 : x0.toInt ≠ 14 := swn rfl c1_14
  have t1_15 : x0.toInt ≠ 15 := swn rfl c1_15
  have t1_42 : x0.toInt ≠ 42 := swn rfl c1_42
  have t1_43 : x0.toInt ≠ 43 := swn rfl c1_43
  have t1_45 : x0.toInt ≠ 45 := swn rfl c1_45
  have t1_60 : x0.toInt ≠ 60 := swn rfl c1_60
  have t1_61 : x0.toInt ≠ 61 := swn rfl c1_61
  refine j_look (tgt := 159) (off := 158) K dX2_work_1 (by decide) (by simp [Op.lookupswitch.offset, t1_3, Ne.symm t1_3, t1_13, Ne.symm t1_13, t1_14, Ne.symm t1_14, t1_15, Ne.symm t1_15, t1_42, Ne.symm t1_42, t1_43, Ne.symm t1_43, t1_45, Ne.symm t1_45, t1_60, Ne.symm t1_60, t1_61, Ne.symm t1_61]) (by decide) ?_
  refine j_iconst (v := (0 : Int32)) K dX2_work_159 (by decide) ?_
  exact j_iret K X dX2_work_160 h
theorem c_X2_work {l : Launch} {S : Hp} {x0 : Int32} {x1 : Int32} {x2 : Int32} {res : Int32 × Hp} (h : F_X2_work S x0 x1 x2 = some res) : Ct l yX2_work cX2_work 3 (some .int) (rmd 0 0 0) 0 0 [vI x0, vI x1, vI x2] S (QI res) :=
  z_entry (by decide +kernel) (Nat.le_of_ble_eq_true rfl) (fun E ad K X => w_X2_work K X h)

theorem dX2_value_0 : decode cX2_value 0 = .ok (.aload_n 0, 1) ∧ 0 + 1 = 1 := ⟨by decide +kernel, rfl⟩
theorem dX2_value_1 : decode cX2_value 1 = .ok (.getfield 9, 3) ∧ 1 + 3 = 4 := ⟨by decide +kernel, rfl⟩
theorem dX2_value_4 : decode cX2_value 4 = .ok (.iload_n 1, 1) ∧ 4 + 1 = 5 := ⟨by decide +kernel, rfl⟩
theorem dX2_value_5 : decode cX2_value 5 = .ok (.invokestatic 25, 3) := by decide +kernel
theorem dX2_value_8 : decode cX2_value 8 = .ok (.aload_n 0, 1) ∧ 8 + 1 = 9 := ⟨by decide +kernel, rfl⟩
theorem dX2_value_9 : decode cX2_value 9 = .ok (.getfield 19, 3) ∧ 9 + 3 = 12 := ⟨by decide +kernel, rfl⟩
theorem dX2_value_12 : decode cX2_value 12 = .ok (.arraylength, 1) ∧ 12 + 1 = 13 := ⟨by decide +kernel, rfl⟩
theorem dX2_value_13 : decode cX2_value 13 = .ok (.invokestatic 33, 3) ∧ 13 + 3 = 16 := ⟨by decide +kernel, rfl⟩
theorem dX2_value_16 : decode cX2_value 16 = .ok (.istore_n 3, 1) ∧ 16 + 1 = 17 := ⟨by decide +kernel, rfl⟩
theorem dX2_value_17 : decode cX2_value 17 = .ok (.iconst 0, 1) ∧ 17 + 1 = 18 := ⟨by decide +kernel, rfl⟩
theorem dX2_value_18 : decode cX2_value 18 = .ok (.istore 4, 2) ∧ 18 + 2 = 20 := ⟨by decide +kernel, rfl⟩
theorem dX2_value_20 : decode cX2_value 20 = .ok (.iload_n 1, 1) ∧ 20 + 1 = 21 := ⟨by decide +kernel, rfl⟩
theorem dX2_value_21 : decode cX2_value 21 = .ok (.ifCond .ne 7, 3) ∧ 21 + 3 = 24 ∧ ((21 : Nat) : Int) + (7) = ((28 : Nat) : Int) := ⟨by decide +kernel, rfl, by decide⟩
theorem dX2_value_24 : decode cX2_value 24 = .ok (.iconst 0, 1) ∧ 24 + 1 = 25 := ⟨by decide +kernel, rfl⟩
theorem dX2_value_25 : decode cX2_value 25 = .ok (.goto 17, 3) ∧ ((25 : Nat) : Int) + (17) = ((42 : Nat) : Int) := ⟨by decide +kernel, by decide⟩
theorem dX2_value_28 : decode cX2_value 28 = .ok (.iconst 0, 1) ∧ 28 + 1 = 29 := ⟨by decide +kernel, rfl⟩
theorem dX2_value_29 : decode cX2_value 29 = .ok (.aload_n 0, 1) ∧ 29 + 1 = 30 := ⟨by decide +kernel, rfl⟩
theorem dX2_value_30 : decode cX2_value 30 = .ok (.getfield 9, 3) ∧ 30 + 3 = 33 := ⟨by decide +kernel, rfl⟩
theorem dX2_value_33 : decode cX2_value 33 = .ok (.iload_n 1, 1) ∧ 33 + 1 = 34 := ⟨by decide +kernel, rfl⟩
theorem dX2_value_34 : decode cX2_value 34 = .ok (.iconst 1, 1) ∧ 34 + 1 = 35 := ⟨by decide +kernel, rfl⟩
theorem dX2_value_35 : decode cX2_value 35 = .ok (.isub, 1) ∧ 35 + 1 = 36 := ⟨by decide +kernel, rfl⟩
theorem dX2_value_36 : decode cX2_value 36 = .ok (.invokestatic 25, 3) := by decide +kernel
theorem dX2_value_39 : decode cX2_value 39 = .ok (.invokestatic 38, 3) ∧ 39 + 3 = 42 := ⟨by decide +kernel, rfl⟩
theorem dX2_value_42 : decode cX2_value 42 = .ok (.istore 5, 2) ∧ 42 + 2 = 44 := ⟨by decide +kernel, rfl⟩
theorem dX2_value_44 : decode cX2_value 44 = .ok (.iload 5, 2) ∧ 44 + 2 = 46 := ⟨by decide +kernel, rfl⟩
theorem dX2_value_46 : decode cX2_value 46 = .ok (.iload_n 3, 1) ∧ 46 + 1 = 47 := ⟨by decide +kernel, rfl⟩
theorem dX2_value_47 : decode cX2_value 47 = .ok (.if_icmp .ge 168, 3) ∧ 47 + 3 = 50 ∧ ((47 : Nat) : Int) + (168) = ((215 : Nat) : Int) := ⟨by decide +kernel, rfl, by decide⟩
theorem dX2_value_50 : decode cX2_value 50 = .ok (.aload_n 0, 1) ∧ 50 + 1 = 51 := ⟨by decide +kernel, rfl⟩
theorem dX2_value_51 : decode cX2_value 51 = .ok (.getfield 19, 3) ∧ 51 + 3 = 54 := ⟨by decide +kernel, rfl⟩
theorem dX2_value_54 : decode cX2_value 54 = .ok (.iload 5, 2) ∧ 54 + 2 = 56 := ⟨by decide +kernel, rfl⟩
theorem dX2_value_56 : decode cX2_value 56 = .ok (.iaload, 1) ∧ 56 + 1 = 57 := ⟨by decide +kernel, rfl⟩
theorem dX2_value_57 : decode cX2_value 57 = .ok (.ineg, 1) ∧ 57 + 1 = 58 := ⟨by decide +kernel, rfl⟩
theorem dX2_value_58 : decode cX2_value 58 = .ok (.istore 6, 2) ∧ 58 + 2 = 60 := ⟨by decide +kernel, rfl⟩
theorem dX2_value_60 : decode cX2_value 60 = .ok (.iload 6, 2) ∧ 60 + 2 = 62 := ⟨by decide +kernel, rfl⟩
theorem dX2_value_62 : decode cX2_value 62 = .ok (.ifCond .gt 7, 3) ∧ 62 + 3 = 65 ∧ ((62 : Nat) : Int) + (7) = ((69 : Nat) : Int) := ⟨by decide +kernel, rfl, by decide⟩
theorem dX2_value_65 : decode cX2_value 65 = .ok (.iconst 1, 1) ∧ 65 + 1 = 66 := ⟨by decide +kernel, rfl⟩
theorem dX2_value_66 : decode cX2_value 66 = .ok (.goto 4, 3) ∧ ((66 : Nat) : Int) + (4) = ((70 : Nat) : Int) := ⟨by decide +kernel, by decide⟩
theorem dX2_value_69 : decode cX2_value 69 = .ok (.iconst 0, 1) ∧ 69 + 1 = 70 := ⟨by decide +kernel, rfl⟩
theorem dX2_value_70 : decode cX2_value 70 = .ok (.istore 7, 2) ∧ 70 + 2 = 72 := ⟨by decide +kernel, rfl⟩
theorem dX2_value_72 : decode cX2_value 72 = .ok (.iload 7, 2) ∧ 72 + 2 = 74 := ⟨by decide +kernel, rfl⟩
theorem dX2_value_74 : decode cX2_value 74 = .ok (.ifCond .ne 17, 3) ∧ 74 + 3 = 77 ∧ ((74 : Nat) : Int) + (17) = ((91 : Nat) : Int) := ⟨by decide +kernel, rfl, by decide⟩
theorem dX2_value_77 : decode cX2_value 77 = .ok (.iload 6, 2) ∧ 77 + 2 = 79 := ⟨by decide +kernel, rfl⟩
theorem dX2_value_79 : decode cX2_value 79 = .ok (.bipush 16, 2) ∧ 79 + 2 = 81 := ⟨by decide +kernel, rfl⟩
theorem dX2_value_81 : decode cX2_value 81 = .ok (.if_icmp .lt 45, 3) ∧ 81 + 3 = 84 ∧ ((81 : Nat) : Int) + (45) = ((126 : Nat) : Int) := ⟨by decide +kernel, rfl, by decide⟩
theorem dX2_value_84 : decode cX2_value 84 = .ok (.iload 6, 2) ∧ 84 + 2 = 86 := ⟨by decide +kernel, rfl⟩
theorem dX2_value_86 : decode cX2_value 86 = .ok (.bipush 21, 2) ∧ 86 + 2 = 88 := ⟨by decide +kernel, rfl⟩
theorem dX2_value_88 : decode cX2_value 88 = .ok (.if_icmp .gt 38, 3) ∧ 88 + 3 = 91 ∧ ((88 : Nat) : Int) + (38) = ((126 : Nat) : Int) := ⟨by decide +kernel, rfl, by decide⟩
theorem dX2_value_91 : decode cX2_value 91 = .ok (.aload_n 0, 1) ∧ 91 + 1 = 92 := ⟨by decide +kernel, rfl⟩
theorem dX2_value_92 : decode cX2_value 92 = .ok (.getfield 22, 3) ∧ 92 + 3 = 95 := ⟨by decide +kernel, rfl⟩
theorem dX2_value_95 : decode cX2_value 95 = .ok (.iload 4, 2) ∧ 95 + 2 = 97 := ⟨by decide +kernel, rfl⟩
theorem dX2_value_97 : decode cX2_value 97 = .ok (.iload 7, 2) ∧ 97 + 2 = 99 := ⟨by decide +kernel, rfl⟩
theorem dX2_value_99 : decode cX2_value 99 = .ok (.ifCond .eq 9, 3) ∧ 99 + 3 = 102 ∧ ((99 : Nat) : Int) + (9) = ((108 : Nat) : Int) := ⟨by decide +kernel, rfl, by decide⟩
theorem dX2_value_102 : decode cX2_value 102 = .ok (.iload 6, 2) ∧ 102 + 2 = 104 := ⟨by decide +kernel, rfl⟩
theorem dX2_value_104 : decode cX2_value 104 = .ok (.ineg, 1) ∧ 104 + 1 = 105 := ⟨by decide +kernel, rfl⟩
theorem dX2_value_105 : decode cX2_value 105 = .ok (.goto 12, 3) ∧ ((105 : Nat) : Int) + (12) = ((117 : Nat) : Int) := ⟨by decide +kernel, by decide⟩
theorem dX2_value_108 : decode cX2_value 108 = .ok (.aload_n 2, 1) ∧ 108 + 1 = 109 := ⟨by decide +kernel, rfl⟩
theorem dX2_value_109 : decode cX2_value 109 = .ok (.iload 6, 2) ∧ 109 + 2 = 111 := ⟨by decide +kernel, rfl⟩
theorem dX2_value_111 : decode cX2_value 111 = .ok (.bipush 16, 2) ∧ 111 + 2 = 113 := ⟨by decide +kernel, rfl⟩
theorem dX2_value_113 : decode cX2_value 113 = .ok (.isub, 1) ∧ 113 + 1 = 114 := ⟨by decide +kernel, rfl⟩
theorem dX2_value_114 : decode cX2_value 114 = .ok (.invokestatic 25, 3) := by decide +kernel
theorem dX2_value_117 : decode cX2_value 117 = .ok (.invokestatic 29, 3) := by decide +kernel
theorem dX2_value_120 : decode cX2_value 120 = .ok (.iinc 4 1, 3) ∧ 120 + 3 = 123 := ⟨by decide +kernel, rfl⟩
theorem dX2_value_123 : decode cX2_value 123 = .ok (.goto 86, 3) ∧ ((123 : Nat) : Int) + (86) = ((209 : Nat) : Int) := ⟨by decide +kernel, by decide⟩
theorem dX2_value_126 : decode cX2_value 126 = .ok (.iload 6, 2) ∧ 126 + 2 = 128 := ⟨by decide +kernel, rfl⟩
theorem dX2_value_128 : decode cX2_value 128 = .ok (.bipush 15, 2) ∧ 128 + 2 = 130 := ⟨by decide +kernel, rfl⟩
theorem dX2_value_130 : decode cX2_value 130 = .ok (.if_icmp .eq 9, 3) ∧ 130 + 3 = 133 ∧ ((130 : Nat) : Int) + (9) = ((139 : Nat) : Int) := ⟨by decide +kernel, rfl, by decide⟩
theorem dX2_value_133 : decode cX2_value 133 = .ok (.iload 6, 2) ∧ 133 + 2 = 135 := ⟨by decide +kernel, rfl⟩
theorem dX2_value_135 : decode cX2_value 135 = .ok (.iconst 3, 1) ∧ 135 + 1 = 136 := ⟨by decide +kernel, rfl⟩
theorem dX2_value_136 : decode cX2_value 136 = .ok (.if_icmp .ne 34, 3) ∧ 136 + 3 = 139 ∧ ((136 : Nat) : Int) + (34) = ((170 : Nat) : Int) := ⟨by decide +kernel, rfl, by decide⟩
theorem dX2_value_139 : decode cX2_value 139 = .ok (.aload_n 0, 1) ∧ 139 + 1 = 140 := ⟨by decide +kernel, rfl⟩
theorem dX2_value_140 : decode cX2_value 140 = .ok (.getfield 22, 3) ∧ 140 + 3 = 143 := ⟨by decide +kernel, rfl⟩
theorem dX2_value_143 : decode cX2_value 143 = .ok (.iload 4, 2) ∧ 143 + 2 = 145 := ⟨by decide +kernel, rfl⟩
theorem dX2_value_145 : decode cX2_value 145 = .ok (.iconst 1, 1) ∧ 145 + 1 = 146 := ⟨by decide +kernel, rfl⟩
theorem dX2_value_146 : decode cX2_value 146 = .ok (.isub, 1) ∧ 146 + 1 = 147 := ⟨by decide +kernel, rfl⟩
theorem dX2_value_147 : decode cX2_value 147 = .ok (.iload 6, 2) ∧ 147 + 2 = 149 := ⟨by decide +kernel, rfl⟩
theorem dX2_value_149 : decode cX2_value 149 = .ok (.aload_n 0, 1) ∧ 149 + 1 = 150 := ⟨by decide +kernel, rfl⟩
theorem dX2_value_150 : decode cX2_value 150 = .ok (.getfield 22, 3) ∧ 150 + 3 = 153 := ⟨by decide +kernel, rfl⟩
theorem dX2_value_153 : decode cX2_value 153 = .ok (.iload 4, 2) ∧ 153 + 2 = 155 := ⟨by decide +kernel, rfl⟩
theorem dX2_value_155 : decode cX2_value 155 = .ok (.iconst 1, 1) ∧ 155 + 1 = 156 := ⟨by decide +kernel, rfl⟩
theorem dX2_value_156 : decode cX2_value 156 = .ok (.isub, 1) ∧ 156 + 1 = 157 := ⟨by decide +kernel, rfl⟩
theorem dX2_value_157 : decode cX2_value 157 = .ok (.invokestatic 25, 3) := by decide +kernel
theorem dX2_value_160 : decode cX2_value 160 = .ok (.iconst 0, 1) ∧ 160 + 1 = 161 := ⟨by decide +kernel, rfl⟩
theorem dX2_value_161 : decode cX2_value 161 = .ok (.invokestatic 43, 3) := by decide +kernel
theorem dX2_value_164 : decode cX2_value 164 = .ok (.invokestatic 29, 3) := by decide +kernel
theorem dX2_value_167 : decode cX2_value 167 = .ok (.goto 42, 3) ∧ ((167 : Nat) : Int) + (42) = ((209 : Nat) : Int) := ⟨by decide +kernel, by decide⟩
theorem dX2_value_170 : decode cX2_value 170 = .ok (.iinc 4 (-1), 3) ∧ 170 + 3 = 173 := ⟨by decide +kernel, rfl⟩
theorem dX2_value_173 : decode cX2_value 173 = .ok (.aload_n 0, 1) ∧ 173 + 1 = 174 := ⟨by decide +kernel, rfl⟩
theorem dX2_value_174 : decode cX2_value 174 = .ok (.getfield 22, 3) ∧ 174 + 3 = 177 := ⟨by decide +kernel, rfl⟩
theorem dX2_value_177 : decode cX2_value 177 = .ok (.iload 4, 2) ∧ 177 + 2 = 179 := ⟨by decide +kernel, rfl⟩
theorem dX2_value_179 : decode cX2_value 179 = .ok (.iconst 1, 1) ∧ 179 + 1 = 180 := ⟨by decide +kernel, rfl⟩
theorem dX2_value_180 : decode cX2_value 180 = .ok (.isub, 1) ∧ 180 + 1 = 181 := ⟨by decide +kernel, rfl⟩
theorem dX2_value_181 : decode cX2_value 181 = .ok (.iload 6, 2) ∧ 181 + 2 = 183 := ⟨by decide +kernel, rfl⟩
theorem dX2_value_183 : decode cX2_value 183 = .ok (.aload_n 0, 1) ∧ 183 + 1 = 184 := ⟨by decide +kernel, rfl⟩
theorem dX2_value_184 : decode cX2_value 184 = .ok (.getfield 22, 3) ∧ 184 + 3 = 187 := ⟨by decide +kernel, rfl⟩
theorem dX2_value_187 : decode cX2_value 187 = .ok (.iload 4, 2) ∧ 187 + 2 = 189 := ⟨by decide +kernel, rfl⟩
theorem dX2_value_189 : decode cX2_value 189 = .ok (.iconst 1, 1) ∧ 189 + 1 = 190 := ⟨by decide +kernel, rfl⟩
theorem dX2_value_190 : decode cX2_value 190 = .ok (.isub, 1) ∧ 190 + 1 = 191 := ⟨by decide +kernel, rfl⟩
theorem dX2_value_191 : decode cX2_value 191 = .ok (.invokestatic 25, 3) := by decide +kernel
theorem dX2_value_194 : decode cX2_value 194 = .ok (.aload_n 0, 1) ∧ 194 + 1 = 195 := ⟨by decide +kernel, rfl⟩
theorem dX2_value_195 : decode cX2_value 195 = .ok (.getfield 22, 3) ∧ 195 + 3 = 198 := ⟨by decide +kernel, rfl⟩
theorem dX2_value_198 : decode cX2_value 198 = .ok (.iload 4, 2) ∧ 198 + 2 = 200 := ⟨by decide +kernel, rfl⟩
theorem dX2_value_200 : decode cX2_value 200 = .ok (.invokestatic 25, 3) := by decide +kernel
theorem dX2_value_203 : decode cX2_value 203 = .ok (.invokestatic 43, 3) := by decide +kernel
theorem dX2_value_206 : decode cX2_value 206 = .ok (.invokestatic 29, 3) := by decide +kernel
theorem dX2_value_209 : decode cX2_value 209 = .ok (.iinc 5 1, 3) ∧ 209 + 3 = 212 := ⟨by decide +kernel, rfl⟩
theorem dX2_value_212 : decode cX2_value 212 = .ok (.goto (-168), 3) ∧ ((212 : Nat) : Int) + (-168) = ((44 : Nat) : Int) := ⟨by decide +kernel, by decide⟩
theorem dX2_value_215 : decode cX2_value 215 = .ok (.aload_n 0, 1) ∧ 215 + 1 = 216 := ⟨by decide +kernel, rfl⟩
theorem dX2_value_216 : decode cX2_value 216 = .ok (.getfield 22, 3) ∧ 216 + 3 = 219 := ⟨by decide +kernel, rfl⟩
theorem dX2_value_219 : decode cX2_value 219 = .ok (.iconst 0, 1) ∧ 219 + 1 = 220 := ⟨by decide +kernel, rfl⟩
theorem dX2_value_220 : decode cX2_value 220 = .ok (.invokestatic 25, 3) := by decide +kernel
theorem dX2_value_223 : decode cX2_value 223 = .ok (.ireturn, 1) := by decide +kernel
def B_X2_value_209 (k44 : Hp → Int32 → Int32 → Option (Int32 × Hp)) (fu : Nat) (o : Nat) (S : Hp) (x2 : Option Nat) (x3 : Int32) (x4 : Int32) (x5 : Int32) : Option (Int32 × Hp) :=
  k44 S x4 (x5 + (1 : Int32))
set_option maxRecDepth 100000 in
set_option maxHeartbeats 4000000 in
theorem w_X2_value_209 {E : Cx} {l : Launch} {res : Int32 × Hp} {ad : Nat → Nat} {k44 : Hp → Int32 → Int32 → Option (Int32 × Hp)} {fu : Nat} {o : Nat} {S : Hp} {x2 : Option Nat} {x3 : Int32} {x4 : Int32} {x5 : Int32} (K : Kx E cX2_value RX2 (rmd 1 0 0)) (X : Bx E l yX2_value 8 (some .int) 0 0 ad (QI res)) (hk44 : ∀ (S : Hp) (x4 : Int32) (x5 : Int32), k44 S x4 x5 = some res → J E 0 0 44 [(0, vR (some o)), (2, vR x2), (3, vI x3), (4, vI x4), (5, vI x5)] [] S ad) (h : B_X2_value_209 k44 fu o S x2 x3 x4 x5 = some res) : J E 0 0 209 [(0, vR (some o)), (2, vR x2), (3, vI x3), (4, vI x4), (5, vI x5)] [] S ad := by
  refine j_iinc (q := 4) (v := (x5 + (1 : Int32))) (lv' := [(5, vI (x5 + (1 : Int32))), (0, vR (some o)), (2, vR x2), (3, vI x3), (4, vI x4)]) K dX2_value_209 rfl rfl X.2.2.1 (by decide) rfl ?_
  refine j_goto K dX2_value_212 ?_
  exact j_sub [1, 2, 3, 4, 0] rfl (hk44 _ _ _ h)
def B_X2_value_117 (k44 : Hp → Int32 → Int32 → Option (Int32 × Hp)) (fu : Nat) (o : Nat) (S : Hp) (x2 : Option Nat) (x3 : Int32) (x4 : Int32) (x5 : Int32) (s0 : Int32) (s1 : Int32) (s2 : Option Nat) : Option (Int32 × Hp) :=
  (F_X7_store S s2 s1 s0).bind fun S117 =>
  B_X2_value_209 k44 fu o S117 x2 x3 (x4 + (1 : Int32)) x5
set_option maxRecDepth 100000 in
set_option maxHeartbeats 4000000 in
theorem w_X2_value_117 {E : Cx} {l : Launch} {res : Int32 × Hp} {ad : Nat → Nat} {k44 : Hp → Int32 → Int32 → Option (Int32 × Hp)} {fu : Nat} {o : Nat} {S : Hp} {x2 : Option Nat} {x3 : Int32} {x4 : Int32} {x5 : Int32} {s0 : Int32} {s1 : Int32} {s2 : Option Nat} (K : Kx E cX2_value RX2 (rmd 1 0 0)) (X : Bx E l yX2_value 8 (some .int) 0 0 ad (QI res)) (hk44 : ∀ (S : Hp) (x4 : Int32) (x5 : Int32), k44 S x4 x5 = some res → J E 0 0 44 [(0, vR (some o)), (2, vR x2), (3, vI x3), (4, vI x4), (5, vI x5)] [] S ad) (h : B_X2_value_117 k44 fu o S x2 x3 x4 x5 s0 s1 s2 = some res) : J E 0 0 117 [(0, vR (some o)), (2, vR x2), (3, vI x3), (4, vI x4), (5, vI x5)] [vI s0, vI s1, vR s2] S ad := by
  obtain ⟨S117, e117, h⟩ := bd h
  refine j_cV (st := []) K (r_SN (vs := [vR s2, vI s1, vI s0]) (n := 3) (host := RX7) K (c_X7_store e117) dX2_value_117 (List.mem_of_getElem? (i := 9) rfl) z216 z1 z217 ⟨zd_X7_store, rfl, rfl, rfl, ⟨Nat.le_of_ble_eq_true rfl, Nat.le_of_ble_eq_true rfl⟩, Nat.le_of_ble_eq_true rfl, Nat.le_of_ble_eq_true rfl, Nat.le_of_ble_eq_true rfl⟩) rfl ?_
  refine j_iinc (q := 3) (v := (x4 + (1 : Int32))) (lv' := [(4, vI (x4 + (1 : Int32))), (0, vR (some o)), (2, vR x2), (3, vI x3), (5, vI x5)]) K dX2_value_120 rfl rfl X.2.2.1 (by decide) rfl ?_
  refine j_goto K dX2_value_123 ?_
  exact j_sub [1, 2, 3, 0, 4] rfl (w_X2_value_209 K X hk44 h)
def B_X2_value_91 (k44 : Hp → Int32 → Int32 → Option (Int32 × Hp)) (fu : Nat) (o : Nat) (S : Hp) (x2 : Option Nat) (x3 : Int32) (x4 : Int32) (x5 : Int32) (x6 : Int32) (x7 : Int32) : Option (Int32 × Hp) :=
  (gR S (some o) 1 2).bind fun v92 =>
  if x7 = 0 then
    b2 (F_X7_at S x2 (x6 - (16 : Int32))) fun v114 S114 =>
    B_X2_value_117 k44 fu o S114 x2 x3 x4 x5 v114 x4 v92
  else
    B_X2_value_117 k44 fu o S x2 x3 x4 x5 (-x6) x4 v92
set_option maxRecDepth 100000 in
set_option maxHeartbeats 4000000 in
theorem w_X2_value_91 {E : Cx} {l : Launch} {res : Int32 × Hp} {ad : Nat → Nat} {k44 : Hp → Int32 → Int32 → Option (Int32 × Hp)} {fu : Nat} {o : Nat} {S : Hp} {x2 : Option Nat} {x3 : Int32} {x4 : Int32} {x5 : Int32} {x6 : Int32} {x7 : Int32} (K : Kx E cX2_value RX2 (rmd 1 0 0)) (X : Bx E l yX2_value 8 (some .int) 0 0 ad (QI res)) (hk44 : ∀ (S : Hp) (x4 : Int32) (x5 : Int32), k44 S x4 x5 = some res → J E 0 0 44 [(0, vR (some o)), (2, vR x2), (3, vI x3), (4, vI x4), (5, vI x5)] [] S ad) (h : B_X2_value_91 k44 fu o S x2 x3 x4 x5 x6 x7 = some res) : J E 0 0 91 [(0, vR (some o)), (2, vR x2), (3, vI x3), (4, vI x4), (5, vI x5), (6, vI x6), (7, vI x7)] [] S ad := by
  refine j_aload_n K dX2_value_91 rfl 0 rfl ?_
  obtain ⟨v92, e92, h⟩ := bd h
  refine fgX2_22 K dX2_value_92 e92 ?_
  refine j_iload K dX2_value_95 3 rfl ?_
  refine j_iload K dX2_value_97 6 rfl ?_
  refine j_if_eq K dX2_value_99 (fun c99 => ?_) (fun c99 => ?_)
  · replace h := it c99 h
    refine j_aload_n K dX2_value_108 rfl 1 rfl ?_
    refine j_iload K dX2_value_109 5 rfl ?_
    refine j_bipush (v := (16 : Int32)) K dX2_value_111 (by decide) ?_
    refine j_isub K dX2_value_113 ?_
    obtain ⟨v114, S114, e114, h⟩ := bd2 h
    refine j_cI (st := [vI x4, vR v92]) K (r_SN (vs := [vR x2, vI (x6 - (16 : Int32))]) (n := 2) (host := RX7) K (c_X7_at e114) dX2_value_114 (List.mem_of_getElem? (i := 8) rfl) z227 z1 z228 ⟨zd_X7_at, rfl, rfl, rfl, ⟨Nat.le_of_ble_eq_true rfl, Nat.le_of_ble_eq_true rfl⟩, Nat.le_of_ble_eq_true rfl, Nat.le_of_ble_eq_true rfl, Nat.le_of_ble_eq_true rfl⟩) rfl ?_
    exact j_sub [0, 1, 2, 3, 4] rfl (w_X2_value_117 K X hk44 h)
  · replace h := ie c99 h
    refine j_iload K dX2_value_102 5 rfl ?_
    refine j_ineg K dX2_value_104 ?_
    refine j_goto K dX2_value_105 ?_
    exact j_sub [0, 1, 2, 3, 4] rfl (w_X2_value_117 K X hk44 h)
def B_X2_value_139 (k44 : Hp → Int32 → Int32 → Option (Int32 × Hp)) (fu : Nat) (o : Nat) (S : Hp) (x2 : Option Nat) (x3 : Int32) (x4 : Int32) (x5 : Int32) (x6 : Int32) : Option (Int32 × Hp) :=
  (gR S (some o) 1 2).bind fun v140 =>
  (gR S (some o) 1 2).bind fun v150 =>
  b2 (F_X7_at S v150 (x4 - (1 : Int32))) fun v157 S157 =>
  b2 (F_X2_work S157 x6 v157 (0 : Int32)) fun v161 S161 =>
  (F_X7_store S161 v140 (x4 - (1 : Int32)) v161).bind fun S164 =>
  B_X2_value_209 k44 fu o S164 x2 x3 x4 x5
set_option maxRecDepth 100000 in
set_option maxHeartbeats 4000000 in
theorem w_X2_value_139 {E : Cx} {l : Launch} {res : Int32 × Hp} {ad : Nat → Nat} {k44 : Hp → Int32 → Int32 → Option (Int32 × Hp)} {fu : Nat} {o : Nat} {S : Hp} {x2 : Option Nat} {x3 : Int32} {x4 : Int32} {x5 : Int32} {x6 : Int32} (K : Kx E cX2_value RX2 (rmd 1 0 0)) (X : Bx E l yX2_value 8 (some .int) 0 0 ad (QI res)) (hk44 : ∀ (S : Hp) (x4 : Int32) (x5 : Int32), k44 S x4 x5 = some res → J E 0 0 44 [(0, vR (some o)), (2, vR x2), (3, vI x3), (4, vI x4), (5, vI x5)] [] S ad) (h : B_X2_value_139 k44 fu o S x2 x3 x4 x5 x6 = some res) : J E 0 0 139 [(0, vR (some o)), (2, vR x2), (3, vI x3), (4, vI x4), (5, vI x5), (6, vI x6)] [] S ad := by
  refine j_aload_n K dX2_value_139 rfl 0 rfl ?_
  obtain ⟨v140, e140, h⟩ := bd h
  refine fgX2_22 K dX2_value_140 e140 ?_
  refine j_iload K dX2_value_143 3 rfl ?_
  refine j_iconst (v := (1 : Int32)) K dX2_value_145 (by decide) ?_
  refine j_isub K dX2_value_146 ?_
  refine j_iload K dX2_value_147 5 rfl ?_
  refine j_aload_n K dX2_value_149 rfl 0 rfl ?_
  obtain ⟨v150, e150, h⟩ := bd h
  refine fgX2_22 K dX2_value_150 e150 ?_
  refine j_iload K dX2_value_153 3 rfl ?_
  refine j_iconst (v := (1 : Int32)) K dX2_value_155 (by decide) ?_
  refine j_isub K dX2_value_156 ?_
  obtain ⟨v157, S157, e157, h⟩ := bd2 h
  refine j_cI (st := [vI x6, vI (x4 - (1 : Int32)), vR v140]) K (r_SN (vs := [vR v150, vI (x4 - (1 : Int32))]) (n := 2) (host := RX7) K (c_X7_at e157) dX2_value_157 (List.mem_of_getElem? (i := 8) rfl) z227 z1 z228 ⟨zd_X7_at, rfl, rfl, rfl, ⟨Nat.le_of_ble_eq_true rfl, Nat.le_of_ble_eq_true rfl⟩, Nat.le_of_ble_eq_true rfl, Nat.le_of_ble_eq_true rfl, Nat.le_of_ble_eq_true rfl⟩) rfl ?_
  refine j_iconst (v := (0 : Int32)) K dX2_value_160 (by decide) ?_
  obtain ⟨v161, S161, e161, h⟩ := bd2 h
  refine j_cI (st := [vI (x4 - (1 : Int32)), vR v140]) K (r_S (vs := [vI x6, vI v157, vI (0 : Int32)]) (n := 3) K (c_X2_work e161) dX2_value_161 z481 z482 z11 z483 ⟨zd_X2_work, rfl, rfl, rfl, ⟨Nat.le_of_ble_eq_true rfl, Nat.le_of_ble_eq_true rfl⟩, Nat.le_of_ble_eq_true rfl, Nat.le_of_ble_eq_true rfl, Nat.le_of_ble_eq_true rfl⟩) rfl ?_
  obtain ⟨S164, e164, h⟩ := bd h
  refine j_cV (st := []) K (r_SN (vs := [vR v140, vI (x4 - (1 : Int32)), vI v161]) (n := 3) (host := RX7) K (c_X7_store e164) dX2_value_164 (List.mem_of_getElem? (i := 9) rfl) z216 z1 z217 ⟨zd_X7_store, rfl, rfl, rfl, ⟨Nat.le_of_ble_eq_true rfl, Nat.le_of_ble_eq_true rfl⟩, Nat.le_of_ble_eq_true rfl, Nat.le_of_ble_eq_true rfl, Nat.le_of_ble_eq_true rfl⟩) rfl ?_
  refine j_goto K dX2_value_167 ?_
  exact j_sub [0, 1, 2, 3, 4] rfl (w_X2_value_209 K X hk44 h)
def B_X2_value_126 (k44 : Hp → Int32 → Int32 → Option (Int32 × Hp)) (fu : Nat) (o : Nat) (S : Hp) (x2 : Option Nat) (x3 : Int32) (x4 : Int32) (x5 : Int32) (x6 : Int32) : Option (Int32 × Hp) :=
  if x6 = (15 : Int32) then
    B_X2_value_139 k44 fu o S x2 x3 x4 x5 x6
  else
    if x6 = (3 : Int32) then
      B_X2_value_139 k44 fu o S x2 x3 x4 x5 x6
    else
      (gR S (some o) 1 2).bind fun v174 =>
      (gR S (some o) 1 2).bind fun v184 =>
      b2 (F_X7_at S v184 ((x4 + (-1 : Int32)) - (1 : Int32))) fun v191 S191 =>
      (gR S191 (some o) 1 2).bind fun v195 =>
      b2 (F_X7_at S191 v195 (x4 + (-1 : Int32))) fun v200 S200 =>
      b2 (F_X2_work S200 x6 v191 v200) fun v203 S203 =>
      (F_X7_store S203 v174 ((x4 + (-1 : Int32)) - (1 : Int32)) v203).bind fun S206 =>
      B_X2_value_209 k44 fu o S206 x2 x3 (x4 + (-1 : Int32)) x5
set_option maxRecDepth 100000 in
set_option maxHeartbeats 4000000 in
theorem w_X2_value_126 {E : Cx} {l : Launch} {res : Int32 × Hp} {ad : Nat → Nat} {k44 : Hp → Int32 → Int32 → Option (Int32 × Hp)} {fu : Nat} {o : Nat} {S : Hp} {x2 : Option Nat} {x3 : Int32} {x4 : Int32} {x5 : Int32} {x6 : Int32} (K : Kx E cX2_value RX2 (rmd 1 0 0)) (X : Bx E l yX2_value 8 (some .int) 0 0 ad (QI res)) (hk44 : ∀ (S : Hp) (x4 : Int32) (x5 : Int32), k44 S x4 x5 = some res → J E 0 0 44 [(0, vR (some o)), (2, vR x2), (3, vI x3), (4, vI x4), (5, vI x5)] [] S ad) (h : B_X2_value_126 k44 fu o S x2 x3 x4 x5 x6 = some res) : J E 0 0 126 [(0, vR (some o)), (2, vR x2), (3, vI x3), (4, vI x4), (5, vI x5), (6, vI x6)] [] S ad := by
  refine j_iload K dX2_value_126 5 rfl ?_
  refine j_bipush (v := (15 : Int32)) K dX2_value_128 (by decide) ?_
  refine j_icmp_eq K dX2_value_130 (fun c130 => ?_) (fun c130 => ?_)
  · replace h := it c130 h
    exact w_X2_value_139 K X hk44 h
  · replace h := ie c130 h
    refine j_iload K dX2_value_133 5 rfl ?_
    refine j_iconst (v := (3 : Int32)) K dX2_value_135 (by decide) ?_
    refine j_icmp_ne K dX2_value_136 (fun c136 => ?_) (fun c136 => ?_)
    · replace h := ie c136 h
      refine j_iinc (q := 3) (v := (x4 + (-1 : Int32))) (lv' := [(4, vI (x4 + (-1 : Int32))), (0, vR (some o)), (2, vR x2), (3, vI x3), (5, vI x5), (6, vI x6)]) K dX2_value_170 rfl rfl X.2.2.1 (by decide) rfl ?_
      refine j_aload_n K dX2_value_173 rfl 1 rfl ?_
      obtain ⟨v174, e174, h⟩ := bd h
      refine fgX2_22 K dX2_value_174 e174 ?_
      refine j_iload K dX2_value_177 0 rfl ?_
      refine j_iconst (v := (1 : Int32)) K dX2_value_179 (by decide) ?_
      refine j_isub K dX2_value_180 ?_
      refine j_iload K dX2_value_181 5 rfl ?_
      refine j_aload_n K dX2_value_183 rfl 1 rfl ?_
      obtain ⟨v184, e184, h⟩ := bd h
      refine fgX2_22 K dX2_value_184 e184 ?_
      refine j_iload K dX2_value_187 0 rfl ?_
      refine j_iconst (v := (1 : Int32)) K dX2_value_189 (by decide) ?_
      refine j_isub K dX2_value_190 ?_
      obtain ⟨v191, S191, e191, h⟩ := bd2 h
      refine j_cI (st := [vI x6, vI ((x4 + (-1 : Int32)) - (1 : Int32)), vR v174]) K (r_SN (vs := [vR v184, vI ((x4 + (-1 : Int32)) - (1 : Int32))]) (n := 2) (host := RX7) K (c_X7_at e191) dX2_value_191 (List.mem_of_getElem? (i := 8) rfl) z227 z1 z228 ⟨zd_X7_at, rfl, rfl, rfl, ⟨Nat.le_of_ble_eq_true rfl, Nat.le_of_ble_eq_true rfl⟩, Nat.le_of_ble_eq_true rfl, Nat.le_of_ble_eq_true rfl, Nat.le_of_ble_eq_true rfl⟩) rfl ?_
      refine j_aload_n K dX2_value_194 rfl 1 rfl ?_
      obtain ⟨v195, e195, h⟩ := bd h
      refine fgX2_22 K dX2_value_195 e195 ?_
      refine j_iload K dX2_value_198 0 rfl ?_
      obtain ⟨v200, S200, e200, h⟩ := bd2 h
      refine j_cI (st := [vI v191, vI x6, vI ((x4 + (-1 : Int32)) - (1 : Int32)), vR v174]) K (r_SN (vs := [vR v195, vI (x4 + (-1 : Int32))]) (n := 2) (host := RX7) K (c_X7_at e200) dX2_value_200 (List.mem_of_getElem? (i := 8) rfl) z227 z1 z228 ⟨zd_X7_at, rfl, rfl, rfl, ⟨Nat.le_of_ble_eq_true rfl, Nat.le_of_ble_eq_true rfl⟩, Nat.le_of_ble_eq_true rfl, Nat.le_of_ble_eq_true rfl, Nat.le_of_ble_eq_true rfl⟩) rfl ?_
      obtain ⟨v203, S203, e203, h⟩ := bd2 h
      refine j_cI (st := [vI ((x4 + (-1 : Int32)) - (1 : Int32)), vR v174]) K (r_S (vs := [vI x6, vI v191, vI v200]) (n := 3) K (c_X2_work e203) dX2_value_203 z481 z482 z11 z483 ⟨zd_X2_work, rfl, rfl, rfl, ⟨Nat.le_of_ble_eq_true rfl, Nat.le_of_ble_eq_true rfl⟩, Nat.le_of_ble_eq_true rfl, Nat.le_of_ble_eq_true rfl, Nat.le_of_ble_eq_true rfl⟩) rfl ?_
      obtain ⟨S206, e206, h⟩ := bd h
      refine j_cV (st := []) K (r_SN (vs := [vR v174, vI ((x4 + (-1 : Int32)) - (1 : Int32)), vI v203]) (n := 3) (host := RX7) K (c_X7_store e206) dX2_value_206 (List.mem_of_getElem? (i := 9) rfl) z216 z1 z217 ⟨zd_X7_store, rfl, rfl, rfl, ⟨Nat.le_of_ble_eq_true rfl, Nat.le_of_ble_eq_true rfl⟩, Nat.le_of_ble_eq_true rfl, Nat.le_of_ble_eq_true rfl, Nat.le_of_ble_eq_true rfl⟩) rfl ?_
      exact j_sub [1, 2, 3, 0, 4] rfl (w_X2_value_209 K X hk44 h)
    · replace h := it c136 h
      exact w_X2_value_139 K X hk44 h
def B_X2_value_70 (k44 : Hp → Int32 → Int32 → Option (Int32 × Hp)) (fu : Nat) (o : Nat) (S : Hp) (x2 : Option Nat) (x3 : Int32) (x4 : Int32) (x5 : Int32) (x6 : Int32) (s0 : Int32) : Option (Int32 × Hp) :=
  if s0 = 0 then
    if x6 < (16 : Int32) then
      B_X2_value_126 k44 fu o S x2 x3 x4 x5 x6
    else
      if (21 : Int32) < x6 then
        B_X2_value_126 k44 fu o S x2 x3 x4 x5 x6
      else
        B_X2_value_91 k44 fu o S x2 x3 x4 x5 x6 s0
  else
    B_X2_value_91 k44 fu o S x2 x3 x4 x5 x6 s0
set_option maxRecDepth 100000 in
set_option maxHeartbeats 4000000 in
theorem w_X2_value_70 {E : Cx} {l : Launch} {res : Int32 × Hp} {ad : Nat → Nat} {k44 : Hp → Int32 → Int32 → Option (Int32 × Hp)} {fu : Nat} {o : Nat} {S : Hp} {x2 : Option Nat} {x3 : Int32} {x4 : Int32} {x5 : Int32} {x6 : Int32} {s0 : Int32} (K : Kx E cX2_value RX2 (rmd 1 0 0)) (X : Bx E l yX2_value 8 (some .int) 0 0 ad (QI res)) (hk44 : ∀ (S : Hp) (x4 : Int32) (x5 : Int32), k44 S x4 x5 = some res → J E 0 0 44 [(0, vR (some o)), (2, vR x2), (3, vI x3), (4, vI x4), (5, vI x5)] [] S ad) (h : B_X2_value_70 k44 fu o S x2 x3 x4 x5 x6 s0 = some res) : J E 0 0 70 [(0, vR (some o)), (2, vR x2), (3, vI x3), (4, vI x4), (5, vI x5), (6, vI x6)] [vI s0] S ad := by
  refine j_istore (lv' := [(7, vI s0), (0, vR (some o)), (2, vR x2), (3, vI x3), (4, vI x4), (5, vI x5), (6, vI x6)]) K dX2_value_70 X.2.2.1 (by decide) rfl ?_
  refine j_iload K dX2_value_72 0 rfl ?_
  refine j_if_ne K dX2_value_74 (fun c74 => ?_) (fun c74 => ?_)
  · replace h := ie c74 h
    exact j_sub [1, 2, 3, 4, 5, 6, 0] rfl (w_X2_value_91 K X hk44 h)
  · replace h := it c74 h
    refine j_iload K dX2_value_77 6 rfl ?_
    refine j_bipush (v := (16 : Int32)) K dX2_value_79 (by decide) ?_
    refine j_icmp_lt K dX2_value_81 (fun c81 => ?_) (fun c81 => ?_)
    · replace h := it c81 h
      exact j_sub [1, 2, 3, 4, 5, 6] rfl (w_X2_value_126 K X hk44 h)
    · replace h := ie c81 h
      refine j_iload K dX2_value_84 6 rfl ?_
      refine j_bipush (v := (21 : Int32)) K dX2_value_86 (by decide) ?_
      refine j_icmp_gt K dX2_value_88 (fun c88 => ?_) (fun c88 => ?_)
      · replace h := it c88 h
        exact j_sub [1, 2, 3, 4, 5, 6] rfl (w_X2_value_126 K X hk44 h)
      · replace h := ie c88 h
        exact j_sub [1, 2, 3, 4, 5, 6, 0] rfl (w_X2_value_91 K X hk44 h)
def L_X2_value_44 (k44 : Hp → Int32 → Int32 → Option (Int32 × Hp)) (fu : Nat) (o : Nat) (x2 : Option Nat) (x3 : Int32) (S : Hp) (x4 : Int32) (x5 : Int32) : Option (Int32 × Hp) :=
  if x3 ≤ x5 then
    (gR S (some o) 1 2).bind fun v216 =>
    b2 (F_X7_at S v216 (0 : Int32)) fun v220 S220 =>
    some (v220, S220)
  else
    (gR S (some o) 1 0).bind fun v51 =>
    (aG S v51 x5).bind fun v56 =>
    if 0 < (-v56) then
      B_X2_value_70 k44 fu o S x2 x3 x4 x5 (-v56) (0 : Int32)
    else
      B_X2_value_70 k44 fu o S x2 x3 x4 x5 (-v56) (1 : Int32)
set_option maxRecDepth 100000 in
set_option maxHeartbeats 4000000 in
theorem wl_X2_value_44 {E : Cx} {l : Launch} {res : Int32 × Hp} {ad : Nat → Nat} {k44 : Hp → Int32 → Int32 → Option (Int32 × Hp)} {fu : Nat} {o : Nat} {S : Hp} {x2 : Option Nat} {x3 : Int32} {x4 : Int32} {x5 : Int32} (K : Kx E cX2_value RX2 (rmd 1 0 0)) (X : Bx E l yX2_value 8 (some .int) 0 0 ad (QI res)) (hk44 : ∀ (S : Hp) (x4 : Int32) (x5 : Int32), k44 S x4 x5 = some res → J E 0 0 44 [(0, vR (some o)), (2, vR x2), (3, vI x3), (4, vI x4), (5, vI x5)] [] S ad) (h : L_X2_value_44 k44 fu o x2 x3 S x4 x5 = some res) : J E 0 0 44 [(0, vR (some o)), (2, vR x2), (3, vI x3), (4, vI x4), (5, vI x5)] [] S ad := by
  refine j_iload K dX2_value_44 4 rfl ?_
  refine j_iload_n K dX2_value_46 rfl 2 rfl ?_
  refine j_icmp_ge K dX2_value_47 (fun c47 => ?_) (fun c47 => ?_)
  · replace h := it c47 h
    refine j_aload_n K dX2_value_215 rfl 0 rfl ?_
    obtain ⟨v216, e216, h⟩ := bd h
    refine fgX2_22 K dX2_value_216 e216 ?_
    refine j_iconst (v := (0 : Int32)) K dX2_value_219 (by decide) ?_
    obtain ⟨v220, S220, e220, h⟩ := bd2 h
    refine j_cI (st := []) K (r_SN (vs := [vR v216, vI (0 : Int32)]) (n := 2) (host := RX7) K (c_X7_at e220) dX2_value_220 (List.mem_of_getElem? (i := 8) rfl) z227 z1 z228 ⟨zd_X7_at, rfl, rfl, rfl, ⟨Nat.le_of_ble_eq_true rfl, Nat.le_of_ble_eq_true rfl⟩, Nat.le_of_ble_eq_true rfl, Nat.le_of_ble_eq_true rfl, Nat.le_of_ble_eq_true rfl⟩) rfl ?_
    exact j_iret K X dX2_value_223 h
  · replace h := ie c47 h
    refine j_aload_n K dX2_value_50 rfl 0 rfl ?_
    obtain ⟨v51, e51, h⟩ := bd h
    refine fgX2_19 K dX2_value_51 e51 ?_
    refine j_iload K dX2_value_54 4 rfl ?_
    obtain ⟨v56, e56, h⟩ := bd h
    refine j_aG K dX2_value_56 e56 ?_
    refine j_ineg K dX2_value_57 ?_
    refine j_istore (lv' := [(6, vI (-v56)), (0, vR (some o)), (2, vR x2), (3, vI x3), (4, vI x4), (5, vI x5)]) K dX2_value_58 X.2.2.1 (by decide) rfl ?_
    refine j_iload K dX2_value_60 0 rfl ?_
    refine j_if_gt K dX2_value_62 (fun c62 => ?_) (fun c62 => ?_)
    · replace h := it c62 h
      refine j_iconst (v := (0 : Int32)) K dX2_value_69 (by decide) ?_
      exact j_sub [1, 2, 3, 4, 5, 0] rfl (w_X2_value_70 K X hk44 h)
    · replace h := ie c62 h
      refine j_iconst (v := (1 : Int32)) K dX2_value_65 (by decide) ?_
      refine j_goto K dX2_value_66 ?_
      exact j_sub [1, 2, 3, 4, 5, 0] rfl (w_X2_value_70 K X hk44 h)
def B_X2_value_44 (fu : Nat) (o : Nat) (x2 : Option Nat) (x3 : Int32) : Nat → Hp → Int32 → Int32 → Option (Int32 × Hp)
  | 0 => fun _ _ _ => none
  | n + 1 => L_X2_value_44 (B_X2_value_44 fu o x2 x3 n) fu o x2 x3
theorem w_X2_value_44 {E : Cx} {l : Launch} {res : Int32 × Hp} {ad : Nat → Nat} {fu : Nat} {o : Nat} {x2 : Option Nat} {x3 : Int32} (K : Kx E cX2_value RX2 (rmd 1 0 0)) (X : Bx E l yX2_value 8 (some .int) 0 0 ad (QI res)) : ∀ (n : Nat) (S : Hp) (x4 : Int32) (x5 : Int32), B_X2_value_44 fu o x2 x3 n S x4 x5 = some res → J E 0 0 44 [(0, vR (some o)), (2, vR x2), (3, vI x3), (4, vI x4), (5, vI x5)] [] S ad := by
  intro n
  induction n with
  | zero =>
    intro S x4 x5 h
    cases h
  | succ n ih =>
    intro S x4 x5 h
    exact wl_X2_value_44 K X ih h
def B_X2_value_42 (fu : Nat) (o : Nat) (S : Hp) (x2 : Option Nat) (x3 : Int32) (x4 : Int32) (s0 : Int32) : Option (Int32 × Hp) :=
  B_X2_value_44 fu o x2 x3 fu S x4 s0
set_option maxRecDepth 100000 in
set_option maxHeartbeats 4000000 in
theorem w_X2_value_42 {E : Cx} {l : Launch} {res : Int32 × Hp} {ad : Nat → Nat} {fu : Nat} {o : Nat} {S : Hp} {x2 : Option Nat} {x3 : Int32} {x4 : Int32} {s0 : Int32} (K : Kx E cX2_value RX2 (rmd 1 0 0)) (X : Bx E l yX2_value 8 (some .int) 0 0 ad (QI res)) (h : B_X2_value_42 fu o S x2 x3 x4 s0 = some res) : J E 0 0 42 [(0, vR (some o)), (2, vR x2), (3, vI x3), (4, vI x4)] [vI s0] S ad := by
  refine j_istore (lv' := [(5, vI s0), (0, vR (some o)), (2, vR x2), (3, vI x3), (4, vI x4)]) K dX2_value_42 X.2.2.1 (by decide) rfl ?_
  exact j_sub [1, 2, 3, 4, 0] rfl (w_X2_value_44 K X _ _ _ _ h)
def F_X2_value (fu : Nat) (S : Hp) (o : Nat) (x1 : Int32) (x2 : Option Nat) : Option (Int32 × Hp) :=
  (gR S (some o) 1 1).bind fun v1 =>
  b2 (F_X7_at S v1 x1) fun v5 S5 =>
  (gR S5 (some o) 1 0).bind fun v9 =>
  (aL S5 v9 7).bind fun v12 =>
  if x1 = 0 then
    B_X2_value_42 fu o S5 x2 (if v12 < v5 then v12 else v5) (0 : Int32) (0 : Int32)
  else
    (gR S5 (some o) 1 1).bind fun v30 =>
    b2 (F_X7_at S5 v30 (x1 - (1 : Int32))) fun v36 S36 =>
    B_X2_value_42 fu o S36 x2 (if v12 < v5 then v12 else v5) (0 : Int32) (if (0 : Int32) < v36 then v36 else (0 : Int32))
set_option maxRecDepth 100000 in
set_option maxHeartbeats 4000000 in
theorem w_X2_value {E : Cx} {l : Launch} {res : Int32 × Hp} {ad : Nat → Nat} {fu : Nat} {S : Hp} {o : Nat} {x1 : Int32} {x2 : Option Nat} (K : Kx E cX2_value RX2 (rmd 1 0 0)) (X : Bx E l yX2_value 8 (some .int) 0 0 ad (QI res)) (h : F_X2_value fu S o x1 x2 = some res) : J E 0 0 0 [(0, vR (some o)), (1, vI x1), (2, vR x2)] [] S ad := by
  refine j_aload_n K dX2_value_0 rfl 0 rfl ?_
  obtain ⟨v1, e1, h⟩ := bd h
  refine fgX2_9 K dX2_value_1 e1 ?_
  refine j_iload_n K dX2_value_4 rfl 1 rfl ?_
  obtain ⟨v5, S5, e5, h⟩ := bd2 h
  refine j_cI (st := []) K (r_SN (vs := [vR v1, vI x1]) (n := 2) (host := RX7) K (c_X7_at e5) dX2_value_5 (List.mem_of_getElem? (i := 8) rfl) z227 z1 z228 ⟨zd_X7_at, rfl, rfl, rfl, ⟨Nat.le_of_ble_eq_true rfl, Nat.le_of_ble_eq_true rfl⟩, Nat.le_of_ble_eq_true rfl, Nat.le_of_ble_eq_true rfl, Nat.le_of_ble_eq_true rfl⟩) rfl ?_
  refine j_aload_n K dX2_value_8 rfl 0 rfl ?_
  obtain ⟨v9, e9, h⟩ := bd h
  refine fgX2_19 K dX2_value_9 e9 ?_
  obtain ⟨v12, e12, h⟩ := bd h
  refine j_aL K (by decide) dX2_value_12 e12 ?_
  refine j_mmin K dX2_value_13 z479 z346 z12 z347 (Nat.le_of_ble_eq_true rfl) (Nat.le_of_ble_eq_true rfl) (Nat.le_of_ble_eq_true rfl) ⟨Nat.le_of_ble_eq_true rfl, Nat.le_of_ble_eq_true rfl⟩ ?_
  refine j_istore_n (lv' := [(3, vI (if v12 < v5 then v12 else v5)), (0, vR (some o)), (1, vI x1), (2, vR x2)]) K dX2_value_16 rfl X.2.2.1 (by decide) rfl ?_
  refine j_iconst (v := (0 : Int32)) K dX2_value_17 (by decide) ?_
  refine j_istore (lv' := [(4, vI (0 : Int32)), (3, vI (if v12 < v5 then v12 else v5)), (0, vR (some o)), (1, vI x1), (2, vR x2)]) K dX2_value_18 X.2.2.1 (by decide) rfl ?_
  refine j_iload_n K dX2_value_20 rfl 3 rfl ?_
  refine j_if_ne K dX2_value_21 (fun c21 => ?_) (fun c21 => ?_)
  · replace h := ie c21 h
    refine j_iconst (v := (0 : Int32)) K dX2_value_28 (by decide) ?_
    refine j_aload_n K dX2_value_29 rfl 2 rfl ?_
    obtain ⟨v30, e30, h⟩ := bd h
    refine fgX2_9 K dX2_value_30 e30 ?_
    refine j_iload_n K dX2_value_33 rfl 3 rfl ?_
    refine j_iconst (v := (1 : Int32)) K dX2_value_34 (by decide) ?_
    refine j_isub K dX2_value_35 ?_
    obtain ⟨v36, S36, e36, h⟩ := bd2 h
    refine j_cI (st := [vI (0 : Int32)]) K (r_SN (vs := [vR v30, vI (x1 - (1 : Int32))]) (n := 2) (host := RX7) K (c_X7_at e36) dX2_value_36 (List.mem_of_getElem? (i := 8) rfl) z227 z1 z228 ⟨zd_X7_at, rfl, rfl, rfl, ⟨Nat.le_of_ble_eq_true rfl, Nat.le_of_ble_eq_true rfl⟩, Nat.le_of_ble_eq_true rfl, Nat.le_of_ble_eq_true rfl, Nat.le_of_ble_eq_true rfl⟩) rfl ?_
    refine j_mmax K dX2_value_39 z480 z349 z12 z350 (Nat.le_of_ble_eq_true rfl) (Nat.le_of_ble_eq_true rfl) (Nat.le_of_ble_eq_true rfl) ⟨Nat.le_of_ble_eq_true rfl, Nat.le_of_ble_eq_true rfl⟩ ?_
    exact j_sub [2, 4, 1, 0] rfl (w_X2_value_42 K X h)
  · replace h := it c21 h
    refine j_iconst (v := (0 : Int32)) K dX2_value_24 (by decide) ?_
    refine j_goto K dX2_value_25 ?_
    exact j_sub [2, 4, 1, 0] rfl (w_X2_value_42 K X h)
theorem c_X2_value {l : Launch} {fu : Nat} {S : Hp} {o : Nat} {x1 : Int32} {x2 : Option Nat} {res : Int32 × Hp} (h : F_X2_value fu S o x1 x2 = some res) : Ct l yX2_value cX2_value 8 (some .int) (rmd 1 0 0) 0 0 [vR (some o), vI x1, vR x2] S (QI res) :=
  z_entry (by decide +kernel) (Nat.le_of_ble_eq_true rfl) (fun E ad K X => w_X2_value K X h)

theorem dX7_bounded_0 : decode cX7_bounded 0 = .ok (.iconst 0, 1) ∧ 0 + 1 = 1 := ⟨by decide +kernel, rfl⟩
theorem dX7_bounded_1 : decode cX7_bounded 1 = .ok (.iload_n 1, 1) ∧ 1 + 1 = 2 := ⟨by decide +kernel, rfl⟩
theorem dX7_bounded_2 : decode cX7_bounded 2 = .ok (.iload_n 0, 1) ∧ 2 + 1 = 3 := ⟨by decide +kernel, rfl⟩
theorem dX7_bounded_3 : decode cX7_bounded 3 = .ok (.invokestatic 311, 3) ∧ 3 + 3 = 6 := ⟨by decide +kernel, rfl⟩
theorem dX7_bounded_6 : decode cX7_bounded 6 = .ok (.invokestatic 316, 3) ∧ 6 + 3 = 9 := ⟨by decide +kernel, rfl⟩
theorem dX7_bounded_9 : decode cX7_bounded 9 = .ok (.ireturn, 1) := by decide +kernel
def F_X7_bounded (S : Hp) (x0 : Int32) (x1 : Int32) : Option (Int32 × Hp) :=
  some ((if (0 : Int32) < (if x0 < x1 then x0 else x1) then (if x0 < x1 then x0 else x1) else (0 : Int32)), S)
set_option maxRecDepth 100000 in
set_option maxHeartbeats 4000000 in
theorem w_X7_bounded {E : Cx} {l : Launch} {res : Int32 × Hp} {ad : Nat → Nat} {S : Hp} {x0 : Int32} {x1 : Int32} (K : Kx E cX7_bounded RX7 (rmd 1 0 0)) (X : Bx E l yX7_bounded 2 (some .int) 0 0 ad (QI res)) (h : F_X7_bounded S x0 x1 = some res) : J E 0 0 0 [(0, vI x0), (1, vI x1)] [] S ad := by
  refine j_iconst (v := (0 : Int32)) K dX7_bounded_0 (by decide) ?_
  refine j_iload_n K dX7_bounded_1 rfl 1 rfl ?_
  refine j_iload_n K dX7_bounded_2 rfl 0 rfl ?_
  refine j_mmin K dX7_bounded_3 z345 z346 z12 z347 (Nat.le_of_ble_eq_true rfl) (Nat.le_of_ble_eq_true rfl) (Nat.le_of_ble_eq_true rfl) ⟨Nat.le_of_ble_eq_true rfl, Nat.le_of_ble_eq_true rfl⟩ ?_
  refine j_mmax K dX7_bounded_6 z348 z349 z12 z350 (Nat.le_of_ble_eq_true rfl) (Nat.le_of_ble_eq_true rfl) (Nat.le_of_ble_eq_true rfl) ⟨Nat.le_of_ble_eq_true rfl, Nat.le_of_ble_eq_true rfl⟩ ?_
  exact j_iret K X dX7_bounded_9 h
theorem c_X7_bounded {l : Launch} {S : Hp} {x0 : Int32} {x1 : Int32} {res : Int32 × Hp} (h : F_X7_bounded S x0 x1 = some res) : Ct l yX7_bounded cX7_bounded 2 (some .int) (rmd 1 0 0) 0 0 [vI x0, vI x1] S (QI res) :=
  z_entry (by decide +kernel) (Nat.le_of_ble_eq_true rfl) (fun E ad K X => w_X7_bounded K X h)
