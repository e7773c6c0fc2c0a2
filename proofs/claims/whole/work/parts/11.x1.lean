theorem dX0_says_0 : decode cX0_says 0 = .ok (.aload_n 0, 1) ∧ 0 + 1 = 1 := ⟨by decide +kernel, rfl⟩
theorem dX0_says_1 : decode cX0_says 1 = .ok (.getfield 46, 3) ∧ 1 + 3 = 4 := ⟨by decide +kernel, rfl⟩
theorem dX0_says_4 : decode cX0_says 4 = .ok (.ifnonnull 5, 3) ∧ 4 + 3 = 7 ∧ ((4 : Nat) : Int) + (5) = ((9 : Nat) : Int) := ⟨by decide +kernel, rfl, by decide⟩
theorem dX0_says_7 : decode cX0_says 7 = .ok (.iconst 0, 1) ∧ 7 + 1 = 8 := ⟨by decide +kernel, rfl⟩
theorem dX0_says_8 : decode cX0_says 8 = .ok (.ireturn, 1) := by decide +kernel
theorem dX0_says_9 : decode cX0_says 9 = .ok (.aload_n 0, 1) ∧ 9 + 1 = 10 := ⟨by decide +kernel, rfl⟩
theorem dX0_says_10 : decode cX0_says 10 = .ok (.getfield 52, 3) ∧ 10 + 3 = 13 := ⟨by decide +kernel, rfl⟩
theorem dX0_says_13 : decode cX0_says 13 = .ok (.iconst 0, 1) ∧ 13 + 1 = 14 := ⟨by decide +kernel, rfl⟩
theorem dX0_says_14 : decode cX0_says 14 = .ok (.aload_n 0, 1) ∧ 14 + 1 = 15 := ⟨by decide +kernel, rfl⟩
theorem dX0_says_15 : decode cX0_says 15 = .ok (.getfield 34, 3) ∧ 15 + 3 = 18 := ⟨by decide +kernel, rfl⟩
theorem dX0_says_18 : decode cX0_says 18 = .ok (.iload_n 3, 1) ∧ 18 + 1 = 19 := ⟨by decide +kernel, rfl⟩
theorem dX0_says_19 : decode cX0_says 19 = .ok (.invokestatic 61, 3) := by decide +kernel
theorem dX0_says_22 : decode cX0_says 22 = .ok (.invokestatic 65, 3) := by decide +kernel
theorem dX0_says_25 : decode cX0_says 25 = .ok (.aload_n 0, 1) ∧ 25 + 1 = 26 := ⟨by decide +kernel, rfl⟩
theorem dX0_says_26 : decode cX0_says 26 = .ok (.getfield 52, 3) ∧ 26 + 3 = 29 := ⟨by decide +kernel, rfl⟩
theorem dX0_says_29 : decode cX0_says 29 = .ok (.iconst 1, 1) ∧ 29 + 1 = 30 := ⟨by decide +kernel, rfl⟩
theorem dX0_says_30 : decode cX0_says 30 = .ok (.aload_n 0, 1) ∧ 30 + 1 = 31 := ⟨by decide +kernel, rfl⟩
theorem dX0_says_31 : decode cX0_says 31 = .ok (.getfield 31, 3) ∧ 31 + 3 = 34 := ⟨by decide +kernel, rfl⟩
theorem dX0_says_34 : decode cX0_says 34 = .ok (.iload_n 3, 1) ∧ 34 + 1 = 35 := ⟨by decide +kernel, rfl⟩
theorem dX0_says_35 : decode cX0_says 35 = .ok (.invokestatic 61, 3) := by decide +kernel
theorem dX0_says_38 : decode cX0_says 38 = .ok (.invokestatic 89, 3) := by decide +kernel
theorem dX0_says_41 : decode cX0_says 41 = .ok (.invokestatic 65, 3) := by decide +kernel
theorem dX0_says_44 : decode cX0_says 44 = .ok (.aload_n 0, 1) ∧ 44 + 1 = 45 := ⟨by decide +kernel, rfl⟩
theorem dX0_says_45 : decode cX0_says 45 = .ok (.getfield 52, 3) ∧ 45 + 3 = 48 := ⟨by decide +kernel, rfl⟩
theorem dX0_says_48 : decode cX0_says 48 = .ok (.iconst 2, 1) ∧ 48 + 1 = 49 := ⟨by decide +kernel, rfl⟩
theorem dX0_says_49 : decode cX0_says 49 = .ok (.aload_n 0, 1) ∧ 49 + 1 = 50 := ⟨by decide +kernel, rfl⟩
theorem dX0_says_50 : decode cX0_says 50 = .ok (.getfield 37, 3) ∧ 50 + 3 = 53 := ⟨by decide +kernel, rfl⟩
theorem dX0_says_53 : decode cX0_says 53 = .ok (.iload_n 3, 1) ∧ 53 + 1 = 54 := ⟨by decide +kernel, rfl⟩
theorem dX0_says_54 : decode cX0_says 54 = .ok (.invokestatic 61, 3) := by decide +kernel
theorem dX0_says_57 : decode cX0_says 57 = .ok (.invokestatic 89, 3) := by decide +kernel
theorem dX0_says_60 : decode cX0_says 60 = .ok (.invokestatic 65, 3) := by decide +kernel
theorem dX0_says_63 : decode cX0_says 63 = .ok (.aload_n 0, 1) ∧ 63 + 1 = 64 := ⟨by decide +kernel, rfl⟩
theorem dX0_says_64 : decode cX0_says 64 = .ok (.getfield 52, 3) ∧ 64 + 3 = 67 := ⟨by decide +kernel, rfl⟩
theorem dX0_says_67 : decode cX0_says 67 = .ok (.iconst 3, 1) ∧ 67 + 1 = 68 := ⟨by decide +kernel, rfl⟩
theorem dX0_says_68 : decode cX0_says 68 = .ok (.aload_n 0, 1) ∧ 68 + 1 = 69 := ⟨by decide +kernel, rfl⟩
theorem dX0_says_69 : decode cX0_says 69 = .ok (.getfield 40, 3) ∧ 69 + 3 = 72 := ⟨by decide +kernel, rfl⟩
theorem dX0_says_72 : decode cX0_says 72 = .ok (.invokestatic 65, 3) := by decide +kernel
theorem dX0_says_75 : decode cX0_says 75 = .ok (.aload_n 0, 1) ∧ 75 + 1 = 76 := ⟨by decide +kernel, rfl⟩
theorem dX0_says_76 : decode cX0_says 76 = .ok (.getfield 52, 3) ∧ 76 + 3 = 79 := ⟨by decide +kernel, rfl⟩
theorem dX0_says_79 : decode cX0_says 79 = .ok (.iconst 4, 1) ∧ 79 + 1 = 80 := ⟨by decide +kernel, rfl⟩
theorem dX0_says_80 : decode cX0_says 80 = .ok (.aload_n 0, 1) ∧ 80 + 1 = 81 := ⟨by decide +kernel, rfl⟩
theorem dX0_says_81 : decode cX0_says 81 = .ok (.getfield 22, 3) ∧ 81 + 3 = 84 := ⟨by decide +kernel, rfl⟩
theorem dX0_says_84 : decode cX0_says 84 = .ok (.iload_n 2, 1) ∧ 84 + 1 = 85 := ⟨by decide +kernel, rfl⟩
theorem dX0_says_85 : decode cX0_says 85 = .ok (.invokestatic 61, 3) := by decide +kernel
theorem dX0_says_88 : decode cX0_says 88 = .ok (.invokestatic 65, 3) := by decide +kernel
theorem dX0_says_91 : decode cX0_says 91 = .ok (.aload_n 0, 1) ∧ 91 + 1 = 92 := ⟨by decide +kernel, rfl⟩
theorem dX0_says_92 : decode cX0_says 92 = .ok (.getfield 52, 3) ∧ 92 + 3 = 95 := ⟨by decide +kernel, rfl⟩
theorem dX0_says_95 : decode cX0_says 95 = .ok (.iconst 5, 1) ∧ 95 + 1 = 96 := ⟨by decide +kernel, rfl⟩
theorem dX0_says_96 : decode cX0_says 96 = .ok (.aload_n 0, 1) ∧ 96 + 1 = 97 := ⟨by decide +kernel, rfl⟩
theorem dX0_says_97 : decode cX0_says 97 = .ok (.getfield 19, 3) ∧ 97 + 3 = 100 := ⟨by decide +kernel, rfl⟩
theorem dX0_says_100 : decode cX0_says 100 = .ok (.iload_n 2, 1) ∧ 100 + 1 = 101 := ⟨by decide +kernel, rfl⟩
theorem dX0_says_101 : decode cX0_says 101 = .ok (.invokestatic 61, 3) := by decide +kernel
theorem dX0_says_104 : decode cX0_says 104 = .ok (.invokestatic 65, 3) := by decide +kernel
theorem dX0_says_107 : decode cX0_says 107 = .ok (.iload_n 1, 1) ∧ 107 + 1 = 108 := ⟨by decide +kernel, rfl⟩
theorem dX0_says_108 : decode cX0_says 108 = .ok (.ifCond .ne 8, 3) ∧ 108 + 3 = 111 ∧ ((108 : Nat) : Int) + (8) = ((116 : Nat) : Int) := ⟨by decide +kernel, rfl, by decide⟩
theorem dX0_says_111 : decode cX0_says 111 = .ok (.bipush 20, 2) ∧ 111 + 2 = 113 := ⟨by decide +kernel, rfl⟩
theorem dX0_says_113 : decode cX0_says 113 = .ok (.goto 5, 3) ∧ ((113 : Nat) : Int) + (5) = ((118 : Nat) : Int) := ⟨by decide +kernel, by decide⟩
theorem dX0_says_116 : decode cX0_says 116 = .ok (.bipush 99, 2) ∧ 116 + 2 = 118 := ⟨by decide +kernel, rfl⟩
theorem dX0_says_118 : decode cX0_says 118 = .ok (.istore 4, 2) ∧ 118 + 2 = 120 := ⟨by decide +kernel, rfl⟩
theorem dX0_says_120 : decode cX0_says 120 = .ok (.aload_n 0, 1) ∧ 120 + 1 = 121 := ⟨by decide +kernel, rfl⟩
theorem dX0_says_121 : decode cX0_says 121 = .ok (.getfield 46, 3) ∧ 121 + 3 = 124 := ⟨by decide +kernel, rfl⟩
theorem dX0_says_124 : decode cX0_says 124 = .ok (.iload_n 1, 1) ∧ 124 + 1 = 125 := ⟨by decide +kernel, rfl⟩
theorem dX0_says_125 : decode cX0_says 125 = .ok (.aload_n 0, 1) ∧ 125 + 1 = 126 := ⟨by decide +kernel, rfl⟩
theorem dX0_says_126 : decode cX0_says 126 = .ok (.getfield 52, 3) ∧ 126 + 3 = 129 := ⟨by decide +kernel, rfl⟩
theorem dX0_says_129 : decode cX0_says 129 = .ok (.invokevirtual 95, 3) := by decide +kernel
theorem dX0_says_132 : decode cX0_says 132 = .ok (.iload 4, 2) ∧ 132 + 2 = 134 := ⟨by decide +kernel, rfl⟩
theorem dX0_says_134 : decode cX0_says 134 = .ok (.invokestatic 99, 3) := by decide +kernel
theorem dX0_says_137 : decode cX0_says 137 = .ok (.ireturn, 1) := by decide +kernel
def B_X0_says_118 (fu : Nat) (o : Nat) (S : Hp) (x1 : Int32) (s0 : Int32) : Option (Int32 × Hp) :=
  (gR S (some o) 0 11).bind fun v121 =>
  (gR S (some o) 0 12).bind fun v126 =>
  (ob S 1 v121).bind fun o129 =>
  b2 (F_X2_value fu S o129 x1 v126) fun v129 S129 =>
  b2 (F_X7_bounded S129 v129 s0) fun v134 S134 =>
  some (v134, S134)
set_option maxRecDepth 100000 in
set_option maxHeartbeats 4000000 in
theorem w_X0_says_118 {E : Cx} {l : Launch} {res : Int32 × Hp} {ad : Nat → Nat} {fu : Nat} {o : Nat} {S : Hp} {x1 : Int32} {s0 : Int32} (K : Kx E cX0_says RX0 (rmd 2 0 0)) (X : Bx E l yX0_says 5 (some .int) 0 0 ad (QI res)) (h : B_X0_says_118 fu o S x1 s0 = some res) : J E 0 0 118 [(0, vR (some o)), (1, vI x1)] [vI s0] S ad := by
  refine j_istore (lv' := [(4, vI s0), (0, vR (some o)), (1, vI x1)]) K dX0_says_118 X.2.2.1 (by decide) rfl ?_
  refine j_aload_n K dX0_says_120 rfl 1 rfl ?_
  obtain ⟨v121, e121, h⟩ := bd h
  refine fgX0_46 K dX0_says_121 e121 ?_
  refine j_iload_n K dX0_says_124 rfl 2 rfl ?_
  refine j_aload_n K dX0_says_125 rfl 1 rfl ?_
  obtain ⟨v126, e126, h⟩ := bd h
  refine fgX0_52 K dX0_says_126 e126 ?_
  obtain ⟨o129, ew129, hz129⟩ := bd h
  obtain ⟨er129, ho129⟩ := ob_some ew129
  subst er129
  have h := hz129
  obtain ⟨v129, S129, e129, h⟩ := bd2 h
  refine j_cI (st := []) K (r_V (vs := [vI x1, vR v126]) (n := 2) (o := o129) K (c_X2_value e129) ho129 (by decide) rfl dX0_says_129 z475 z476 z477 z11 z478 ⟨zd_X2_value, rfl, rfl, rfl, ⟨Nat.le_of_ble_eq_true rfl, Nat.le_of_ble_eq_true rfl⟩, Nat.le_of_ble_eq_true rfl, Nat.le_of_ble_eq_true rfl, Nat.le_of_ble_eq_true rfl⟩) rfl ?_
  refine j_iload K dX0_says_132 0 rfl ?_
  obtain ⟨v134, S134, e134, h⟩ := bd2 h
  refine j_cI (st := []) K (r_SN (vs := [vI v129, vI s0]) (n := 2) (host := RX7) K (c_X7_bounded e134) dX0_says_134 (List.mem_of_getElem? (i := 13) rfl) z343 z1 z344 ⟨zd_X7_bounded, rfl, rfl, rfl, ⟨Nat.le_of_ble_eq_true rfl, Nat.le_of_ble_eq_true rfl⟩, Nat.le_of_ble_eq_true rfl, Nat.le_of_ble_eq_true rfl, Nat.le_of_ble_eq_true rfl⟩) rfl ?_
  exact j_iret K X dX0_says_137 h
def F_X0_says (fu : Nat) (S : Hp) (o : Nat) (x1 : Int32) (x2 : Int32) (x3 : Int32) : Option (Int32 × Hp) :=
  (gR S (some o) 0 11).bind fun v1 =>
  if v1 = none then
    some ((0 : Int32), S)
  else
    (gR S (some o) 0 12).bind fun v10 =>
    (gR S (some o) 0 7).bind fun v15 =>
    b2 (F_X7_at S v15 x3) fun v19 S19 =>
    (F_X7_store S19 v10 (0 : Int32) v19).bind fun S22 =>
    (gR S22 (some o) 0 12).bind fun v26 =>
    (gR S22 (some o) 0 6).bind fun v31 =>
    b2 (F_X7_at S22 v31 x3) fun v35 S35 =>
    b2 (F_J6_bitCount_0f7a4 S35 v35) fun v38 S38 =>
    (F_X7_store S38 v26 (1 : Int32) v38).bind fun S41 =>
    (gR S41 (some o) 0 12).bind fun v45 =>
    (gR S41 (some o) 0 8).bind fun v50 =>
    b2 (F_X7_at S41 v50 x3) fun v54 S54 =>
    b2 (F_J6_bitCount_0f7a4 S54 v54) fun v57 S57 =>
    (F_X7_store S57 v45 (2 : Int32) v57).bind fun S60 =>
    (gR S60 (some o) 0 12).bind fun v64 =>
    (gI S60 (some o) 0 9).bind fun v69 =>
    (F_X7_store S60 v64 (3 : Int32) v69).bind fun S72 =>
    (gR S72 (some o) 0 12).bind fun v76 =>
    (gR S72 (some o) 0 3).bind fun v81 =>
    b2 (F_X7_at S72 v81 x2) fun v85 S85 =>
    (F_X7_store S85 v76 (4 : Int32) v85).bind fun S88 =>
    (gR S88 (some o) 0 12).bind fun v92 =>
    (gR S88 (some o) 0 2).bind fun v97 =>
    b2 (F_X7_at S88 v97 x2) fun v101 S101 =>
    (F_X7_store S101 v92 (5 : Int32) v101).bind fun S104 =>
    if x1 = 0 then
      B_X0_says_118 fu o S104 x1 (20 : Int32)
    else
      B_X0_says_118 fu o S104 x1 (99 : Int32)
set_option maxRecDepth 100000 in
set_option maxHeartbeats 4000000 in
theorem w_X0_says {E : Cx} {l : Launch} {res : Int32 × Hp} {ad : Nat → Nat} {fu : Nat} {S : Hp} {o : Nat} {x1 : Int32} {x2 : Int32} {x3 : Int32} (K : Kx E cX0_says RX0 (rmd 2 0 0)) (X : Bx E l yX0_says 5 (some .int) 0 0 ad (QI res)) (h : F_X0_says fu S o x1 x2 x3 = some res) : J E 0 0 0 [(0, vR (some o)), (1, vI x1), (2, vI x2), (3, vI x3)] [] S ad := by
  refine j_aload_n K dX0_says_0 rfl 0 rfl ?_
  obtain ⟨v1, e1, h⟩ := bd h
  refine fgX0_46 K dX0_says_1 e1 ?_
  refine j_ifnonnull K dX0_says_4 (fun c4 => ?_) (fun c4 => ?_)
  · replace h := ie c4 h
    refine j_aload_n K dX0_says_9 rfl 0 rfl ?_
    obtain ⟨v10, e10, h⟩ := bd h
    refine fgX0_52 K dX0_says_10 e10 ?_
    refine j_iconst (v := (0 : Int32)) K dX0_says_13 (by decide) ?_
    refine j_aload_n K dX0_says_14 rfl 0 rfl ?_
    obtain ⟨v15, e15, h⟩ := bd h
    refine fgX0_34 K dX0_says_15 e15 ?_
    refine j_iload_n K dX0_says_18 rfl 3 rfl ?_
    obtain ⟨v19, S19, e19, h⟩ := bd2 h
    refine j_cI (st := [vI (0 : Int32), vR v10]) K (r_SN (vs := [vR v15, vI x3]) (n := 2) (host := RX7) K (c_X7_at e19) dX0_says_19 (List.mem_of_getElem? (i := 12) rfl) z227 z1 z228 ⟨zd_X7_at, rfl, rfl, rfl, ⟨Nat.le_of_ble_eq_true rfl, Nat.le_of_ble_eq_true rfl⟩, Nat.le_of_ble_eq_true rfl, Nat.le_of_ble_eq_true rfl, Nat.le_of_ble_eq_true rfl⟩) rfl ?_
    obtain ⟨S22, e22, h⟩ := bd h
    refine j_cV (st := []) K (r_SN (vs := [vR v10, vI (0 : Int32), vI v19]) (n := 3) (host := RX7) K (c_X7_store e22) dX0_says_22 (List.mem_of_getElem? (i := 10) rfl) z216 z1 z217 ⟨zd_X7_store, rfl, rfl, rfl, ⟨Nat.le_of_ble_eq_true rfl, Nat.le_of_ble_eq_true rfl⟩, Nat.le_of_ble_eq_true rfl, Nat.le_of_ble_eq_true rfl, Nat.le_of_ble_eq_true rfl⟩) rfl ?_
    refine j_aload_n K dX0_says_25 rfl 0 rfl ?_
    obtain ⟨v26, e26, h⟩ := bd h
    refine fgX0_52 K dX0_says_26 e26 ?_
    refine j_iconst (v := (1 : Int32)) K dX0_says_29 (by decide) ?_
    refine j_aload_n K dX0_says_30 rfl 0 rfl ?_
    obtain ⟨v31, e31, h⟩ := bd h
    refine fgX0_31 K dX0_says_31 e31 ?_
    refine j_iload_n K dX0_says_34 rfl 3 rfl ?_
    obtain ⟨v35, S35, e35, h⟩ := bd2 h
    refine j_cI (st := [vI (1 : Int32), vR v26]) K (r_SN (vs := [vR v31, vI x3]) (n := 2) (host := RX7) K (c_X7_at e35) dX0_says_35 (List.mem_of_getElem? (i := 12) rfl) z227 z1 z228 ⟨zd_X7_at, rfl, rfl, rfl, ⟨Nat.le_of_ble_eq_true rfl, Nat.le_of_ble_eq_true rfl⟩, Nat.le_of_ble_eq_true rfl, Nat.le_of_ble_eq_true rfl, Nat.le_of_ble_eq_true rfl⟩) rfl ?_
    obtain ⟨v38, S38, e38, h⟩ := bd2 h
    refine j_cI (st := [vI (1 : Int32), vR v26]) K (r_S (vs := [vI v35]) (n := 1) K (c_J6_bitCount_0f7a4 e38) dX0_says_38 z469 z470 z14 z471 ⟨zd_J6_bitCount_0f7a4, rfl, rfl, rfl, ⟨Nat.le_of_ble_eq_true rfl, Nat.le_of_ble_eq_true rfl⟩, Nat.le_of_ble_eq_true rfl, Nat.le_of_ble_eq_true rfl, Nat.le_of_ble_eq_true rfl⟩) rfl ?_
    obtain ⟨S41, e41, h⟩ := bd h
    refine j_cV (st := []) K (r_SN (vs := [vR v26, vI (1 : Int32), vI v38]) (n := 3) (host := RX7) K (c_X7_store e41) dX0_says_41 (List.mem_of_getElem? (i := 10) rfl) z216 z1 z217 ⟨zd_X7_store, rfl, rfl, rfl, ⟨Nat.le_of_ble_eq_true rfl, Nat.le_of_ble_eq_true rfl⟩, Nat.le_of_ble_eq_true rfl, Nat.le_of_ble_eq_true rfl, Nat.le_of_ble_eq_true rfl⟩) rfl ?_
    refine j_aload_n K dX0_says_44 rfl 0 rfl ?_
    obtain ⟨v45, e45, h⟩ := bd h
    refine fgX0_52 K dX0_says_45 e45 ?_
    refine j_iconst (v := (2 : Int32)) K dX0_says_48 (by decide) ?_
    refine j_aload_n K dX0_says_49 rfl 0 rfl ?_
    obtain ⟨v50, e50, h⟩ := bd h
    refine fgX0_37 K dX0_says_50 e50 ?_
    refine j_iload_n K dX0_says_53 rfl 3 rfl ?_
    obtain ⟨v54, S54, e54, h⟩ := bd2 h
    refine j_cI (st := [vI (2 : Int32), vR v45]) K (r_SN (vs := [vR v50, vI x3]) (n := 2) (host := RX7) K (c_X7_at e54) dX0_says_54 (List.mem_of_getElem? (i := 12) rfl) z227 z1 z228 ⟨zd_X7_at, rfl, rfl, rfl, ⟨Nat.le_of_ble_eq_true rfl, Nat.le_of_ble_eq_true rfl⟩, Nat.le_of_ble_eq_true rfl, Nat.le_of_ble_eq_true rfl, Nat.le_of_ble_eq_true rfl⟩) rfl ?_
    obtain ⟨v57, S57, e57, h⟩ := bd2 h
    refine j_cI (st := [vI (2 : Int32), vR v45]) K (r_S (vs := [vI v54]) (n := 1) K (c_J6_bitCount_0f7a4 e57) dX0_says_57 z469 z470 z14 z471 ⟨zd_J6_bitCount_0f7a4, rfl, rfl, rfl, ⟨Nat.le_of_ble_eq_true rfl, Nat.le_of_ble_eq_true rfl⟩, Nat.le_of_ble_eq_true rfl, Nat.le_of_ble_eq_true rfl, Nat.le_of_ble_eq_true rfl⟩) rfl ?_
    obtain ⟨S60, e60, h⟩ := bd h
    refine j_cV (st := []) K (r_SN (vs := [vR v45, vI (2 : Int32), vI v57]) (n := 3) (host := RX7) K (c_X7_store e60) dX0_says_60 (List.mem_of_getElem? (i := 10) rfl) z216 z1 z217 ⟨zd_X7_store, rfl, rfl, rfl, ⟨Nat.le_of_ble_eq_true rfl, Nat.le_of_ble_eq_true rfl⟩, Nat.le_of_ble_eq_true rfl, Nat.le_of_ble_eq_true rfl, Nat.le_of_ble_eq_true rfl⟩) rfl ?_
    refine j_aload_n K dX0_says_63 rfl 0 rfl ?_
    obtain ⟨v64, e64, h⟩ := bd h
    refine fgX0_52 K dX0_says_64 e64 ?_
    refine j_iconst (v := (3 : Int32)) K dX0_says_67 (by decide) ?_
    refine j_aload_n K dX0_says_68 rfl 0 rfl ?_
    obtain ⟨v69, e69, h⟩ := bd h
    refine fgX0_40 K dX0_says_69 e69 ?_
    obtain ⟨S72, e72, h⟩ := bd h
    refine j_cV (st := []) K (r_SN (vs := [vR v64, vI (3 : Int32), vI v69]) (n := 3) (host := RX7) K (c_X7_store e72) dX0_says_72 (List.mem_of_getElem? (i := 10) rfl) z216 z1 z217 ⟨zd_X7_store, rfl, rfl, rfl, ⟨Nat.le_of_ble_eq_true rfl, Nat.le_of_ble_eq_true rfl⟩, Nat.le_of_ble_eq_true rfl, Nat.le_of_ble_eq_true rfl, Nat.le_of_ble_eq_true rfl⟩) rfl ?_
    refine j_aload_n K dX0_says_75 rfl 0 rfl ?_
    obtain ⟨v76, e76, h⟩ := bd h
    refine fgX0_52 K dX0_says_76 e76 ?_
    refine j_iconst (v := (4 : Int32)) K dX0_says_79 (by decide) ?_
    refine j_aload_n K dX0_says_80 rfl 0 rfl ?_
    obtain ⟨v81, e81, h⟩ := bd h
    refine fgX0_22 K dX0_says_81 e81 ?_
    refine j_iload_n K dX0_says_84 rfl 2 rfl ?_
    obtain ⟨v85, S85, e85, h⟩ := bd2 h
    refine j_cI (st := [vI (4 : Int32), vR v76]) K (r_SN (vs := [vR v81, vI x2]) (n := 2) (host := RX7) K (c_X7_at e85) dX0_says_85 (List.mem_of_getElem? (i := 12) rfl) z227 z1 z228 ⟨zd_X7_at, rfl, rfl, rfl, ⟨Nat.le_of_ble_eq_true rfl, Nat.le_of_ble_eq_true rfl⟩, Nat.le_of_ble_eq_true rfl, Nat.le_of_ble_eq_true rfl, Nat.le_of_ble_eq_true rfl⟩) rfl ?_
    obtain ⟨S88, e88, h⟩ := bd h
    refine j_cV (st := []) K (r_SN (vs := [vR v76, vI (4 : Int32), vI v85]) (n := 3) (host := RX7) K (c_X7_store e88) dX0_says_88 (List.mem_of_getElem? (i := 10) rfl) z216 z1 z217 ⟨zd_X7_store, rfl, rfl, rfl, ⟨Nat.le_of_ble_eq_true rfl, Nat.le_of_ble_eq_true rfl⟩, Nat.le_of_ble_eq_true rfl, Nat.le_of_ble_eq_true rfl, Nat.le_of_ble_eq_true rfl⟩) rfl ?_
    refine j_aload_n K dX0_says_91 rfl 0 rfl ?_
    obtain ⟨v92, e92, h⟩ := bd h
    refine fgX0_52 K dX0_says_92 e92 ?_
    refine j_iconst (v := (5 : Int32)) K dX0_says_95 (by decide) ?_
    refine j_aload_n K dX0_says_96 rfl 0 rfl ?_
    obtain ⟨v97, e97, h⟩ := bd h
    refine fgX0_19 K dX0_says_97 e97 ?_
    refine j_iload_n K dX0_says_100 rfl 2 rfl ?_
    obtain ⟨v101, S101, e101, h⟩ := bd2 h
    refine j_cI (st := [vI (5 : Int32), vR v92]) K (r_SN (vs := [vR v97, vI x2]) (n := 2) (host := RX7) K (c_X7_at e101) dX0_says_101 (List.mem_of_getElem? (i := 12) rfl) z227 z1 z228 ⟨zd_X7_at, rfl, rfl, rfl, ⟨Nat.le_of_ble_eq_true rfl, Nat.le_of_ble_eq_true rfl⟩, Nat.le_of_ble_eq_true rfl, Nat.le_of_ble_eq_true rfl, Nat.le_of_ble_eq_true rfl⟩) rfl ?_
    obtain ⟨S104, e104, h⟩ := bd h
    refine j_cV (st := []) K (r_SN (vs := [vR v92, vI (5 : Int32), vI v101]) (n := 3) (host := RX7) K (c_X7_store e104) dX0_says_104 (List.mem_of_getElem? (i := 10) rfl) z216 z1 z217 ⟨zd_X7_store, rfl, rfl, rfl, ⟨Nat.le_of_ble_eq_true rfl, Nat.le_of_ble_eq_true rfl⟩, Nat.le_of_ble_eq_true rfl, Nat.le_of_ble_eq_true rfl, Nat.le_of_ble_eq_true rfl⟩) rfl ?_
    refine j_iload_n K dX0_says_107 rfl 1 rfl ?_
    refine j_if_ne K dX0_says_108 (fun c108 => ?_) (fun c108 => ?_)
    · replace h := ie c108 h
      refine j_bipush (v := (99 : Int32)) K dX0_says_116 (by decide) ?_
      exact j_sub [0, 1] rfl (w_X0_says_118 K X h)
    · replace h := it c108 h
      refine j_bipush (v := (20 : Int32)) K dX0_says_111 (by decide) ?_
      refine j_goto K dX0_says_113 ?_
      exact j_sub [0, 1] rfl (w_X0_says_118 K X h)
  · replace h := it c4 h
    refine j_iconst (v := (0 : Int32)) K dX0_says_7 (by decide) ?_
    exact j_iret K X dX0_says_8 h
theorem c_X0_says {l : Launch} {fu : Nat} {S : Hp} {o : Nat} {x1 : Int32} {x2 : Int32} {x3 : Int32} {res : Int32 × Hp} (h : F_X0_says fu S o x1 x2 x3 = some res) : Ct l yX0_says cX0_says 5 (some .int) (rmd 2 0 0) 0 0 [vR (some o), vI x1, vI x2, vI x3] S (QI res) :=
  z_entry (by decide +kernel) (Nat.le_of_ble_eq_true rfl) (fun E ad K X => w_X0_says K X h)

theorem dX1_strokes_0 : decode cX1_strokes 0 = .ok (.iload_n 0, 1) ∧ 0 + 1 = 1 := ⟨by decide +kernel, rfl⟩
theorem dX1_strokes_1 : decode cX1_strokes 1 = .ok (.tableswitch 74 1 5 #[35, 39, 43, 49, 63], 35) := by decide +kernel
theorem dX1_strokes_36 : decode cX1_strokes 36 = .ok (.iload_n 1, 1) ∧ 36 + 1 = 37 := ⟨by decide +kernel, rfl⟩
theorem dX1_strokes_37 : decode cX1_strokes 37 = .ok (.iload_n 2, 1) ∧ 37 + 1 = 38 := ⟨by decide +kernel, rfl⟩
theorem dX1_strokes_38 : decode cX1_strokes 38 = .ok (.iadd, 1) ∧ 38 + 1 = 39 := ⟨by decide +kernel, rfl⟩
theorem dX1_strokes_39 : decode cX1_strokes 39 = .ok (.ireturn, 1) := by decide +kernel
theorem dX1_strokes_40 : decode cX1_strokes 40 = .ok (.iload_n 1, 1) ∧ 40 + 1 = 41 := ⟨by decide +kernel, rfl⟩
theorem dX1_strokes_41 : decode cX1_strokes 41 = .ok (.iconst 2, 1) ∧ 41 + 1 = 42 := ⟨by decide +kernel, rfl⟩
theorem dX1_strokes_42 : decode cX1_strokes 42 = .ok (.idiv, 1) ∧ 42 + 1 = 43 := ⟨by decide +kernel, rfl⟩
theorem dX1_strokes_43 : decode cX1_strokes 43 = .ok (.ireturn, 1) := by decide +kernel
theorem dX1_strokes_44 : decode cX1_strokes 44 = .ok (.iconst 2, 1) ∧ 44 + 1 = 45 := ⟨by decide +kernel, rfl⟩
theorem dX1_strokes_45 : decode cX1_strokes 45 = .ok (.iload_n 1, 1) ∧ 45 + 1 = 46 := ⟨by decide +kernel, rfl⟩
theorem dX1_strokes_46 : decode cX1_strokes 46 = .ok (.iload_n 2, 1) ∧ 46 + 1 = 47 := ⟨by decide +kernel, rfl⟩
theorem dX1_strokes_47 : decode cX1_strokes 47 = .ok (.iadd, 1) ∧ 47 + 1 = 48 := ⟨by decide +kernel, rfl⟩
theorem dX1_strokes_48 : decode cX1_strokes 48 = .ok (.imul, 1) ∧ 48 + 1 = 49 := ⟨by decide +kernel, rfl⟩
theorem dX1_strokes_49 : decode cX1_strokes 49 = .ok (.ireturn, 1) := by decide +kernel
theorem dX1_strokes_50 : decode cX1_strokes 50 = .ok (.iload 4, 2) ∧ 50 + 2 = 52 := ⟨by decide +kernel, rfl⟩
theorem dX1_strokes_52 : decode cX1_strokes 52 = .ok (.iconst 2, 1) ∧ 52 + 1 = 53 := ⟨by decide +kernel, rfl⟩
theorem dX1_strokes_53 : decode cX1_strokes 53 = .ok (.if_icmp .lt 7, 3) ∧ 53 + 3 = 56 ∧ ((53 : Nat) : Int) + (7) = ((60 : Nat) : Int) := ⟨by decide +kernel, rfl, by decide⟩
theorem dX1_strokes_56 : decode cX1_strokes 56 = .ok (.iconst 0, 1) ∧ 56 + 1 = 57 := ⟨by decide +kernel, rfl⟩
theorem dX1_strokes_57 : decode cX1_strokes 57 = .ok (.goto 6, 3) ∧ ((57 : Nat) : Int) + (6) = ((63 : Nat) : Int) := ⟨by decide +kernel, by decide⟩
theorem dX1_strokes_60 : decode cX1_strokes 60 = .ok (.iload_n 1, 1) ∧ 60 + 1 = 61 := ⟨by decide +kernel, rfl⟩
theorem dX1_strokes_61 : decode cX1_strokes 61 = .ok (.iconst 2, 1) ∧ 61 + 1 = 62 := ⟨by decide +kernel, rfl⟩
theorem dX1_strokes_62 : decode cX1_strokes 62 = .ok (.idiv, 1) ∧ 62 + 1 = 63 := ⟨by decide +kernel, rfl⟩
theorem dX1_strokes_63 : decode cX1_strokes 63 = .ok (.ireturn, 1) := by decide +kernel
theorem dX1_strokes_64 : decode cX1_strokes 64 = .ok (.iload_n 3, 1) ∧ 64 + 1 = 65 := ⟨by decide +kernel, rfl⟩
theorem dX1_strokes_65 : decode cX1_strokes 65 = .ok (.iload_n 2, 1) ∧ 65 + 1 = 66 := ⟨by decide +kernel, rfl⟩
theorem dX1_strokes_66 : decode cX1_strokes 66 = .ok (.if_icmp .le 7, 3) ∧ 66 + 3 = 69 ∧ ((66 : Nat) : Int) + (7) = ((73 : Nat) : Int) := ⟨by decide +kernel, rfl, by decide⟩
theorem dX1_strokes_69 : decode cX1_strokes 69 = .ok (.iconst 1, 1) ∧ 69 + 1 = 70 := ⟨by decide +kernel, rfl⟩
theorem dX1_strokes_70 : decode cX1_strokes 70 = .ok (.goto 4, 3) ∧ ((70 : Nat) : Int) + (4) = ((74 : Nat) : Int) := ⟨by decide +kernel, by decide⟩
theorem dX1_strokes_73 : decode cX1_strokes 73 = .ok (.iconst 0, 1) ∧ 73 + 1 = 74 := ⟨by decide +kernel, rfl⟩
theorem dX1_strokes_74 : decode cX1_strokes 74 = .ok (.ireturn, 1) := by decide +kernel
theorem dX1_strokes_75 : decode cX1_strokes 75 = .ok (.iload_n 1, 1) ∧ 75 + 1 = 76 := ⟨by decide +kernel, rfl⟩
theorem dX1_strokes_76 : decode cX1_strokes 76 = .ok (.ireturn, 1) := by decide +kernel
def B_X1_strokes_74 (S : Hp) (s0 : Int32) : Option (Int32 × Hp) :=
  some (s0, S)
set_option maxRecDepth 100000 in
set_option maxHeartbeats 4000000 in
theorem w_X1_strokes_74 {E : Cx} {l : Launch} {res : Int32 × Hp} {ad : Nat → Nat} {S : Hp} {s0 : Int32} (K : Kx E cX1_strokes RX1 (rmd 0 0 0)) (X : Bx E l yX1_strokes 5 (some .int) 0 0 ad (QI res)) (h : B_X1_strokes_74 S s0 = some res) : J E 0 0 74 [] [vI s0] S ad := by
  exact j_iret K X dX1_strokes_74 h
def B_X1_strokes_63 (S : Hp) (s0 : Int32) : Option (Int32 × Hp) :=
  some (s0, S)
set_option maxRecDepth 100000 in
set_option maxHeartbeats 4000000 in
theorem w_X1_strokes_63 {E : Cx} {l : Launch} {res : Int32 × Hp} {ad : Nat → Nat} {S : Hp} {s0 : Int32} (K : Kx E cX1_strokes RX1 (rmd 0 0 0)) (X : Bx E l yX1_strokes 5 (some .int) 0 0 ad (QI res)) (h : B_X1_strokes_63 S s0 = some res) : J E 0 0 63 [] [vI s0] S ad := by
  exact j_iret K X dX1_strokes_63 h
def F_X1_strokes (S : Hp) (x0 : Int32) (x1 : Int32) (x2 : Int32) (x3 : Int32) (x4 : Int32) : Option (Int32 × Hp) :=
  if x0 = 1 then
    some ((x1 + x2), S)
  else
  if x0 = 2 then
    some ((x1 / (2 : Int32)), S)
  else
  if x0 = 3 then
    some (((2 : Int32) * (x1 + x2)), S)
  else
  if x0 = 4 then
    if x4 < (2 : Int32) then
      B_X1_strokes_63 S (x1 / (2 : Int32))
    else
      B_X1_strokes_63 S (0 : Int32)
  else
  if x0 = 5 then
    if x3 ≤ x2 then
      B_X1_strokes_74 S (0 : Int32)
    else
      B_X1_strokes_74 S (1 : Int32)
  else
  some (x1, S)
set_option maxRecDepth 100000 in
set_option maxHeartbeats 4000000 in
theorem w_X1_strokes {E : Cx} {l : Launch} {res : Int32 × Hp} {ad : Nat → Nat} {S : Hp} {x0 : Int32} {x1 : Int32} {x2 : Int32} {x3 : Int32} {x4 : Int32} (K : Kx E cX1_strokes RX1 (rmd 0 0 0)) (X : Bx E l yX1_strokes 5 (some .int) 0 0 ad (QI res)) (h : F_X1_strokes S x0 x1 x2 x3 x4 = some res) : J E 0 0 0 [(0, vI x0), (1, vI x1), (2, vI x2), (3, vI x3), (4, vI x4)] [] S ad := by
  refine j_iload_n K dX1_strokes_0 rfl 0 rfl ?_
  by_cases c1_1 : x0 = 1
  · replace h := it c1_1 h
    have t1 : x0.toInt = 1 := by rw [c1_1]; rfl
    refine j_tin (tgt := 36) K dX1_strokes_1 (by rw [t1]; decide) (by rw [t1]; decide) (by rw [t1]; rfl) (by decide) ?_
    refine j_iload_n K dX1_strokes_36 rfl 1 rfl ?_
    refine j_iload_n K dX1_strokes_37 rfl 2 rfl ?_
    refine j_iadd K dX1_strokes_38 ?_
    exact j_iret K X dX1_strokes_39 h
  replace h := ie c1_1 h
  by_cases c1_2 : x0 = 2
  · replace h := it c1_2 h
    have t1 : x0.toInt = 2 := by rw [c1_2]; rfl
    refine j_tin (tgt := 40) K dX1_strokes_1 (by rw [t1]; decide) (by rw [t1]; decide) (by rw [t1]; rfl) (by decide) ?_
    refine j_iload_n K dX1_strokes_40 rfl 1 rfl ?_
    refine j_iconst (v := (2 : Int32)) K dX1_strokes_41 (by decide) ?_
    refine j_idiv K dX1_strokes_42 (by decide) ?_
    exact j_iret K X dX1_strokes_43 h
  replace h := ie c1_2 h
  by_cases c1_3 : x0 = 3
  · replace h := it c1_3 h
    have t1 : x0.toInt = 3 := by rw [c1_3]; rfl
    refine j_tin (tgt := 44) K dX1_strokes_1 (by rw [t1]; decide) (by rw [t1]; decide) (by rw [t1]; rfl) (by decide) ?_
    refine j_iconst (v := (2 : Int32)) K dX1_strokes_44 (by decide) ?_
    refine j_iload_n K dX1_strokes_45 rfl 1 rfl ?_
    refine j_iload_n K dX1_strokes_46 rfl 2 rfl ?_
    refine j_iadd K dX1_strokes_47 ?_
    refine j_imul K dX1_strokes_48 ?_
    exact j_iret K X dX1_strokes_49 h
  replace h := ie c1_3 h
  by_cases c1_4 : x0 = 4
  · replace h := it c1_4 h
    have t1 : x0.toInt = 4 := by rw [c1_4]; rfl
    refine j_tin (tgt := 50) K dX1_strokes_1 (by rw [t1]; decide) (by rw [t1]; decide) (by rw [t1]; rfl) (by decide) ?_
    refine j_iload K dX1_strokes_50 4 rfl ?_
    refine j_iconst (v := (2 : Int32)) K dX1_strokes_52 (by decide) ?_
    refine j_icmp_lt K dX1_strokes_53 (fun c53 => ?_) (fun c53 => ?_)
    · replace h := it c53 h
      refine j_iload_n K dX1_strokes_60 rfl 1 rfl ?_
      refine j_iconst (v := (2 : Int32)) K dX1_strokes_61 (by decide) ?_
      refine j_idiv K dX1_strokes_62 (by decide) ?_
      exact j_sub [] rfl (w_X1_strokes_63 K X h)
    · replace h := ie c53 h
      refine j_iconst (v := (0 : Int32)) K dX1_strokes_56 (by decide) ?_
      refine j_goto K dX1_strokes_57 ?_
      exact j_sub [] rfl (w_X1_strokes_63 K X h)
  replace h := ie c1_4 h
  by_cases c1_5 : x0 = 5
  · replace h := it c1_5 h
    have t1 : x0.toInt = 5 := by rw [c1_5]; rfl
    refine j_tin (tgt := 64) K dX1_strokes_1 (by rw [t1]; decide) (by rw [t1]; decide) (by rw [t1]; rfl) (by decide) ?_
    refine j_iload_n K dX1_strokes_64 rfl 3 rfl ?_
    refine j_iload_n K dX1_strokes_65 rfl 2 rfl ?_
    refine j_icmp_le K dX1_strokes_66 (fun c66 => ?_) (fun c66 => ?_)
    · replace h := it c66 h
      refine j_iconst (v := (0 : Int32)) K dX1_strokes_73 (by decide) ?_
      exact j_sub [] rfl (w_X1_strokes_74 K X h)
    · replace h := ie c66 h
      refine j_iconst (v := (1 : Int32)) K dX1_strokes_69 (by decide) ?_
      refine j_goto K dX1_strokes_70 ?_
      exact j_sub [] rfl (w_X1_strokes_74 K X h)
  replace h := ie c1_5 h
  have t1_1 : x0.toInt ≠ 1 := swn rfl c1_1
  have t1_2 : x0.toInt ≠ 2 := swn rfl c1_2
  have t1_3 : x0.toInt ≠ 3 := swn rfl c1_3
  have t1_4 : x0.toInt ≠ 4 := swn rfl c1_4
  have t1_5 : x0.toInt ≠ 5 := swn rfl c1_5
  refine j_tout (tgt := 75) K dX1_strokes_1 (by omega) (by decide) ?_
  refine j_iload_n K dX1_strokes_75 rfl 1 rfl ?_
  exact j_iret K X dX1_strokes_76 h
theorem c_X1_strokes {l : Launch} {S : Hp} {x0 : Int32} {x1 : Int32} {x2 : Int32} {x3 : Int32} {x4 : Int32} {res : Int32 × Hp} (h : F_X1_strokes S x0 x1 x2 x3 x4 = some res) : Ct l yX1_strokes cX1_strokes 5 (some .int) (rmd 0 0 0) 0 0 [vI x0, vI x1, vI x2, vI x3, vI x4] S (QI res) :=
  z_entry (by decide +kernel) (Nat.le_of_ble_eq_true rfl) (fun E ad K X => w_X1_strokes K X h)

theorem dX0_strokes_0 : decode cX0_strokes 0 = .ok (.aload_n 0, 1) ∧ 0 + 1 = 1 := ⟨by decide +kernel, rfl⟩
theorem dX0_strokes_1 : decode cX0_strokes 1 = .ok (.getfield 31, 3) ∧ 1 + 3 = 4 := ⟨by decide +kernel, rfl⟩
theorem dX0_strokes_4 : decode cX0_strokes 4 = .ok (.iload_n 2, 1) ∧ 4 + 1 = 5 := ⟨by decide +kernel, rfl⟩
theorem dX0_strokes_5 : decode cX0_strokes 5 = .ok (.invokestatic 61, 3) := by decide +kernel
theorem dX0_strokes_8 : decode cX0_strokes 8 = .ok (.invokestatic 89, 3) := by decide +kernel
theorem dX0_strokes_11 : decode cX0_strokes 11 = .ok (.istore_n 3, 1) ∧ 11 + 1 = 12 := ⟨by decide +kernel, rfl⟩
theorem dX0_strokes_12 : decode cX0_strokes 12 = .ok (.aload_n 0, 1) ∧ 12 + 1 = 13 := ⟨by decide +kernel, rfl⟩
theorem dX0_strokes_13 : decode cX0_strokes 13 = .ok (.iconst 0, 1) ∧ 13 + 1 = 14 := ⟨by decide +kernel, rfl⟩
theorem dX0_strokes_14 : decode cX0_strokes 14 = .ok (.iload_n 1, 1) ∧ 14 + 1 = 15 := ⟨by decide +kernel, rfl⟩
theorem dX0_strokes_15 : decode cX0_strokes 15 = .ok (.iload_n 2, 1) ∧ 15 + 1 = 16 := ⟨by decide +kernel, rfl⟩
theorem dX0_strokes_16 : decode cX0_strokes 16 = .ok (.invokevirtual 103, 3) := by decide +kernel
theorem dX0_strokes_19 : decode cX0_strokes 19 = .ok (.istore 4, 2) ∧ 19 + 2 = 21 := ⟨by decide +kernel, rfl⟩
theorem dX0_strokes_21 : decode cX0_strokes 21 = .ok (.aload_n 0, 1) ∧ 21 + 1 = 22 := ⟨by decide +kernel, rfl⟩
theorem dX0_strokes_22 : decode cX0_strokes 22 = .ok (.getfield 15, 3) ∧ 22 + 3 = 25 := ⟨by decide +kernel, rfl⟩
theorem dX0_strokes_25 : decode cX0_strokes 25 = .ok (.iload_n 1, 1) ∧ 25 + 1 = 26 := ⟨by decide +kernel, rfl⟩
theorem dX0_strokes_26 : decode cX0_strokes 26 = .ok (.invokestatic 61, 3) := by decide +kernel
theorem dX0_strokes_29 : decode cX0_strokes 29 = .ok (.iload 4, 2) ∧ 29 + 2 = 31 := ⟨by decide +kernel, rfl⟩
theorem dX0_strokes_31 : decode cX0_strokes 31 = .ok (.aload_n 0, 1) ∧ 31 + 1 = 32 := ⟨by decide +kernel, rfl⟩
theorem dX0_strokes_32 : decode cX0_strokes 32 = .ok (.getfield 19, 3) ∧ 32 + 3 = 35 := ⟨by decide +kernel, rfl⟩
theorem dX0_strokes_35 : decode cX0_strokes 35 = .ok (.iload_n 1, 1) ∧ 35 + 1 = 36 := ⟨by decide +kernel, rfl⟩
theorem dX0_strokes_36 : decode cX0_strokes 36 = .ok (.invokestatic 61, 3) := by decide +kernel
theorem dX0_strokes_39 : decode cX0_strokes 39 = .ok (.aload_n 0, 1) ∧ 39 + 1 = 40 := ⟨by decide +kernel, rfl⟩
theorem dX0_strokes_40 : decode cX0_strokes 40 = .ok (.getfield 34, 3) ∧ 40 + 3 = 43 := ⟨by decide +kernel, rfl⟩
theorem dX0_strokes_43 : decode cX0_strokes 43 = .ok (.iload_n 2, 1) ∧ 43 + 1 = 44 := ⟨by decide +kernel, rfl⟩
theorem dX0_strokes_44 : decode cX0_strokes 44 = .ok (.invokestatic 61, 3) := by decide +kernel
theorem dX0_strokes_47 : decode cX0_strokes 47 = .ok (.iload_n 3, 1) ∧ 47 + 1 = 48 := ⟨by decide +kernel, rfl⟩
theorem dX0_strokes_48 : decode cX0_strokes 48 = .ok (.invokestatic 107, 3) := by decide +kernel
theorem dX0_strokes_51 : decode cX0_strokes 51 = .ok (.ireturn, 1) := by decide +kernel
def F_X0_strokes (fu : Nat) (S : Hp) (o : Nat) (x1 : Int32) (x2 : Int32) : Option (Int32 × Hp) :=
  (gR S (some o) 0 6).bind fun v1 =>
  b2 (F_X7_at S v1 x2) fun v5 S5 =>
  b2 (F_J6_bitCount_0f7a4 S5 v5) fun v8 S8 =>
  (ob S8 0 (some o)).bind fun _ =>
  b2 (F_X0_says fu S8 o (0 : Int32) x1 x2) fun v16 S16 =>
  (gR S16 (some o) 0 1).bind fun v22 =>
  b2 (F_X7_at S16 v22 x1) fun v26 S26 =>
  (gR S26 (some o) 0 2).bind fun v32 =>
  b2 (F_X7_at S26 v32 x1) fun v36 S36 =>
  (gR S36 (some o) 0 7).bind fun v40 =>
  b2 (F_X7_at S36 v40 x2) fun v44 S44 =>
  b2 (F_X1_strokes S44 v26 v16 v36 v44 v8) fun v48 S48 =>
  some (v48, S48)
set_option maxRecDepth 100000 in
set_option maxHeartbeats 4000000 in
theorem w_X0_strokes {E : Cx} {l : Launch} {res : Int32 × Hp} {ad : Nat → Nat} {fu : Nat} {S : Hp} {o : Nat} {x1 : Int32} {x2 : Int32} (K : Kx E cX0_strokes RX0 (rmd 3 0 0)) (X : Bx E l yX0_strokes 5 (some .int) 0 0 ad (QI res)) (h : F_X0_strokes fu S o x1 x2 = some res) : J E 0 0 0 [(0, vR (some o)), (1, vI x1), (2, vI x2)] [] S ad := by
  refine j_aload_n K dX0_strokes_0 rfl 0 rfl ?_
  obtain ⟨v1, e1, h⟩ := bd h
  refine fgX0_31 K dX0_strokes_1 e1 ?_
  refine j_iload_n K dX0_strokes_4 rfl 2 rfl ?_
  obtain ⟨v5, S5, e5, h⟩ := bd2 h
  refine j_cI (st := []) K (r_SN (vs := [vR v1, vI x2]) (n := 2) (host := RX7) K (c_X7_at e5) dX0_strokes_5 (List.mem_of_getElem? (i := 12) rfl) z227 z1 z228 ⟨zd_X7_at, rfl, rfl, rfl, ⟨Nat.le_of_ble_eq_true rfl, Nat.le_of_ble_eq_true rfl⟩, Nat.le_of_ble_eq_true rfl, Nat.le_of_ble_eq_true rfl, Nat.le_of_ble_eq_true rfl⟩) rfl ?_
  obtain ⟨v8, S8, e8, h⟩ := bd2 h
  refine j_cI (st := []) K (r_S (vs := [vI v5]) (n := 1) K (c_J6_bitCount_0f7a4 e8) dX0_strokes_8 z469 z470 z14 z471 ⟨zd_J6_bitCount_0f7a4, rfl, rfl, rfl, ⟨Nat.le_of_ble_eq_true rfl, Nat.le_of_ble_eq_true rfl⟩, Nat.le_of_ble_eq_true rfl, Nat.le_of_ble_eq_true rfl, Nat.le_of_ble_eq_true rfl⟩) rfl ?_
  refine j_istore_n (lv' := [(3, vI v8), (0, vR (some o)), (1, vI x1), (2, vI x2)]) K dX0_strokes_11 rfl X.2.2.1 (by decide) rfl ?_
  refine j_aload_n K dX0_strokes_12 rfl 1 rfl ?_
  refine j_iconst (v := (0 : Int32)) K dX0_strokes_13 (by decide) ?_
  refine j_iload_n K dX0_strokes_14 rfl 2 rfl ?_
  refine j_iload_n K dX0_strokes_15 rfl 3 rfl ?_
  obtain ⟨w16, ew16, h⟩ := bd h
  have ho16 := obS ew16
  obtain ⟨v16, S16, e16, h⟩ := bd2 h
  refine j_cI (st := []) K (r_V (vs := [vI (0 : Int32), vI x1, vI x2]) (n := 3) (o := o) K (c_X0_says e16) ho16 (by decide) rfl dX0_strokes_16 z525 z466 z467 z2 z468 ⟨zd_X0_says, rfl, rfl, rfl, ⟨Nat.le_of_ble_eq_true rfl, Nat.le_of_ble_eq_true rfl⟩, Nat.le_of_ble_eq_true rfl, Nat.le_of_ble_eq_true rfl, Nat.le_of_ble_eq_true rfl⟩) rfl ?_
  refine j_istore (lv' := [(4, vI v16), (3, vI v8), (0, vR (some o)), (1, vI x1), (2, vI x2)]) K dX0_strokes_19 X.2.2.1 (by decide) rfl ?_
  refine j_aload_n K dX0_strokes_21 rfl 2 rfl ?_
  obtain ⟨v22, e22, h⟩ := bd h
  refine fgX0_15 K dX0_strokes_22 e22 ?_
  refine j_iload_n K dX0_strokes_25 rfl 3 rfl ?_
  obtain ⟨v26, S26, e26, h⟩ := bd2 h
  refine j_cI (st := []) K (r_SN (vs := [vR v22, vI x1]) (n := 2) (host := RX7) K (c_X7_at e26) dX0_strokes_26 (List.mem_of_getElem? (i := 12) rfl) z227 z1 z228 ⟨zd_X7_at, rfl, rfl, rfl, ⟨Nat.le_of_ble_eq_true rfl, Nat.le_of_ble_eq_true rfl⟩, Nat.le_of_ble_eq_true rfl, Nat.le_of_ble_eq_true rfl, Nat.le_of_ble_eq_true rfl⟩) rfl ?_
  refine j_iload K dX0_strokes_29 0 rfl ?_
  refine j_aload_n K dX0_strokes_31 rfl 2 rfl ?_
  obtain ⟨v32, e32, h⟩ := bd h
  refine fgX0_19 K dX0_strokes_32 e32 ?_
  refine j_iload_n K dX0_strokes_35 rfl 3 rfl ?_
  obtain ⟨v36, S36, e36, h⟩ := bd2 h
  refine j_cI (st := [vI v16, vI v26]) K (r_SN (vs := [vR v32, vI x1]) (n := 2) (host := RX7) K (c_X7_at e36) dX0_strokes_36 (List.mem_of_getElem? (i := 12) rfl) z227 z1 z228 ⟨zd_X7_at, rfl, rfl, rfl, ⟨Nat.le_of_ble_eq_true rfl, Nat.le_of_ble_eq_true rfl⟩, Nat.le_of_ble_eq_true rfl, Nat.le_of_ble_eq_true rfl, Nat.le_of_ble_eq_true rfl⟩) rfl ?_
  refine j_aload_n K dX0_strokes_39 rfl 2 rfl ?_
  obtain ⟨v40, e40, h⟩ := bd h
  refine fgX0_34 K dX0_strokes_40 e40 ?_
  refine j_iload_n K dX0_strokes_43 rfl 4 rfl ?_
  obtain ⟨v44, S44, e44, h⟩ := bd2 h
  refine j_cI (st := [vI v36, vI v16, vI v26]) K (r_SN (vs := [vR v40, vI x2]) (n := 2) (host := RX7) K (c_X7_at e44) dX0_strokes_44 (List.mem_of_getElem? (i := 12) rfl) z227 z1 z228 ⟨zd_X7_at, rfl, rfl, rfl, ⟨Nat.le_of_ble_eq_true rfl, Nat.le_of_ble_eq_true rfl⟩, Nat.le_of_ble_eq_true rfl, Nat.le_of_ble_eq_true rfl, Nat.le_of_ble_eq_true rfl⟩) rfl ?_
  refine j_iload_n K dX0_strokes_47 rfl 1 rfl ?_
  obtain ⟨v48, S48, e48, h⟩ := bd2 h
  refine j_cI (st := []) K (r_S (vs := [vI v26, vI v16, vI v36, vI v44, vI v8]) (n := 5) K (c_X1_strokes e48) dX0_strokes_48 z526 z527 z15 z528 ⟨zd_X1_strokes, rfl, rfl, rfl, ⟨Nat.le_of_ble_eq_true rfl, Nat.le_of_ble_eq_true rfl⟩, Nat.le_of_ble_eq_true rfl, Nat.le_of_ble_eq_true rfl, Nat.le_of_ble_eq_true rfl⟩) rfl ?_
  exact j_iret K X dX0_strokes_51 h
theorem c_X0_strokes {l : Launch} {fu : Nat} {S : Hp} {o : Nat} {x1 : Int32} {x2 : Int32} {res : Int32 × Hp} (h : F_X0_strokes fu S o x1 x2 = some res) : Ct l yX0_strokes cX0_strokes 5 (some .int) (rmd 3 0 0) 0 0 [vR (some o), vI x1, vI x2] S (QI res) :=
  z_entry (by decide +kernel) (Nat.le_of_ble_eq_true rfl) (fun E ad K X => w_X0_strokes K X h)

theorem dX0_fillStrokes_0 : decode cX0_fillStrokes 0 = .ok (.iconst 0, 1) ∧ 0 + 1 = 1 := ⟨by decide +kernel, rfl⟩
theorem dX0_fillStrokes_1 : decode cX0_fillStrokes 1 = .ok (.istore_n 3, 1) ∧ 1 + 1 = 2 := ⟨by decide +kernel, rfl⟩
theorem dX0_fillStrokes_2 : decode cX0_fillStrokes 2 = .ok (.iload_n 3, 1) ∧ 2 + 1 = 3 := ⟨by decide +kernel, rfl⟩
theorem dX0_fillStrokes_3 : decode cX0_fillStrokes 3 = .ok (.aload_n 0, 1) ∧ 3 + 1 = 4 := ⟨by decide +kernel, rfl⟩
theorem dX0_fillStrokes_4 : decode cX0_fillStrokes 4 = .ok (.getfield 28, 3) ∧ 4 + 3 = 7 := ⟨by decide +kernel, rfl⟩
theorem dX0_fillStrokes_7 : decode cX0_fillStrokes 7 = .ok (.if_icmp .ge 20, 3) ∧ 7 + 3 = 10 ∧ ((7 : Nat) : Int) + (20) = ((27 : Nat) : Int) := ⟨by decide +kernel, rfl, by decide⟩
theorem dX0_fillStrokes_10 : decode cX0_fillStrokes 10 = .ok (.aload_n 2, 1) ∧ 10 + 1 = 11 := ⟨by decide +kernel, rfl⟩
theorem dX0_fillStrokes_11 : decode cX0_fillStrokes 11 = .ok (.iload_n 3, 1) ∧ 11 + 1 = 12 := ⟨by decide +kernel, rfl⟩
theorem dX0_fillStrokes_12 : decode cX0_fillStrokes 12 = .ok (.aload_n 0, 1) ∧ 12 + 1 = 13 := ⟨by decide +kernel, rfl⟩
theorem dX0_fillStrokes_13 : decode cX0_fillStrokes 13 = .ok (.iload_n 1, 1) ∧ 13 + 1 = 14 := ⟨by decide +kernel, rfl⟩
theorem dX0_fillStrokes_14 : decode cX0_fillStrokes 14 = .ok (.iload_n 3, 1) ∧ 14 + 1 = 15 := ⟨by decide +kernel, rfl⟩
theorem dX0_fillStrokes_15 : decode cX0_fillStrokes 15 = .ok (.invokevirtual 113, 3) := by decide +kernel
theorem dX0_fillStrokes_18 : decode cX0_fillStrokes 18 = .ok (.invokestatic 65, 3) := by decide +kernel
theorem dX0_fillStrokes_21 : decode cX0_fillStrokes 21 = .ok (.iinc 3 1, 3) ∧ 21 + 3 = 24 := ⟨by decide +kernel, rfl⟩
theorem dX0_fillStrokes_24 : decode cX0_fillStrokes 24 = .ok (.goto (-22), 3) ∧ ((24 : Nat) : Int) + (-22) = ((2 : Nat) : Int) := ⟨by decide +kernel, by decide⟩
theorem dX0_fillStrokes_27 : decode cX0_fillStrokes 27 = .ok (.return_, 1) := by decide +kernel
def L_X0_fillStrokes_2 (k2 : Hp → Int32 → Option (Hp)) (fu : Nat) (o : Nat) (x1 : Int32) (x2 : Option Nat) (S : Hp) (x3 : Int32) : Option (Hp) :=
  (gI S (some o) 0 5).bind fun v4 =>
  if v4 ≤ x3 then
    some S
  else
    (ob S 0 (some o)).bind fun _ =>
    b2 (F_X0_strokes fu S o x1 x3) fun v15 S15 =>
    (F_X7_store S15 x2 x3 v15).bind fun S18 =>
    k2 S18 (x3 + (1 : Int32))
set_option maxRecDepth 100000 in
set_option maxHeartbeats 4000000 in
theorem wl_X0_fillStrokes_2 {E : Cx} {l : Launch} {res : Hp} {ad : Nat → Nat} {k2 : Hp → Int32 → Option (Hp)} {fu : Nat} {o : Nat} {S : Hp} {x1 : Int32} {x2 : Option Nat} {x3 : Int32} (K : Kx E cX0_fillStrokes RX0 (rmd 4 0 0)) (X : Bx E l yX0_fillStrokes 4 none 0 0 ad (QV res)) (hk2 : ∀ (S : Hp) (x3 : Int32), k2 S x3 = some res → J E 0 0 2 [(0, vR (some o)), (1, vI x1), (2, vR x2), (3, vI x3)] [] S ad) (h : L_X0_fillStrokes_2 k2 fu o x1 x2 S x3 = some res) : J E 0 0 2 [(0, vR (some o)), (1, vI x1), (2, vR x2), (3, vI x3)] [] S ad := by
  refine j_iload_n K dX0_fillStrokes_2 rfl 3 rfl ?_
  refine j_aload_n K dX0_fillStrokes_3 rfl 0 rfl ?_
  obtain ⟨v4, e4, h⟩ := bd h
  refine fgX0_28 K dX0_fillStrokes_4 e4 ?_
  refine j_icmp_ge K dX0_fillStrokes_7 (fun c7 => ?_) (fun c7 => ?_)
  · replace h := it c7 h
    exact j_vret K X dX0_fillStrokes_27 h
  · replace h := ie c7 h
    refine j_aload_n K dX0_fillStrokes_10 rfl 2 rfl ?_
    refine j_iload_n K dX0_fillStrokes_11 rfl 3 rfl ?_
    refine j_aload_n K dX0_fillStrokes_12 rfl 0 rfl ?_
    refine j_iload_n K dX0_fillStrokes_13 rfl 1 rfl ?_
    refine j_iload_n K dX0_fillStrokes_14 rfl 3 rfl ?_
    obtain ⟨w15, ew15, h⟩ := bd h
    have ho15 := obS ew15
    obtain ⟨v15, S15, e15, h⟩ := bd2 h
    refine j_cI (st := [vI x3, vR x2]) K (r_V (vs := [vI x1, vI x3]) (n := 2) (o := o) K (c_X0_strokes e15) ho15 (by decide) rfl dX0_fillStrokes_15 z521 z522 z523 z2 z524 ⟨zd_X0_strokes, rfl, rfl, rfl, ⟨Nat.le_of_ble_eq_true rfl, Nat.le_of_ble_eq_true rfl⟩, Nat.le_of_ble_eq_true rfl, Nat.le_of_ble_eq_true rfl, Nat.le_of_ble_eq_true rfl⟩) rfl ?_
    obtain ⟨S18, e18, h⟩ := bd h
    refine j_cV (st := []) K (r_SN (vs := [vR x2, vI x3, vI v15]) (n := 3) (host := RX7) K (c_X7_store e18) dX0_fillStrokes_18 (List.mem_of_getElem? (i := 10) rfl) z216 z1 z217 ⟨zd_X7_store, rfl, rfl, rfl, ⟨Nat.le_of_ble_eq_true rfl, Nat.le_of_ble_eq_true rfl⟩, Nat.le_of_ble_eq_true rfl, Nat.le_of_ble_eq_true rfl, Nat.le_of_ble_eq_true rfl⟩) rfl ?_
    refine j_iinc (q := 3) (v := (x3 + (1 : Int32))) (lv' := [(3, vI (x3 + (1 : Int32))), (0, vR (some o)), (1, vI x1), (2, vR x2)]) K dX0_fillStrokes_21 rfl rfl X.2.2.1 (by decide) rfl ?_
    refine j_goto K dX0_fillStrokes_24 ?_
    exact j_sub [1, 2, 3, 0] rfl (hk2 _ _ h)
def B_X0_fillStrokes_2 (fu : Nat) (o : Nat) (x1 : Int32) (x2 : Option Nat) : Nat → Hp → Int32 → Option (Hp)
  | 0 => fun _ _ => none
  | n + 1 => L_X0_fillStrokes_2 (B_X0_fillStrokes_2 fu o x1 x2 n) fu o x1 x2
theorem w_X0_fillStrokes_2 {E : Cx} {l : Launch} {res : Hp} {ad : Nat → Nat} {fu : Nat} {o : Nat} {x1 : Int32} {x2 : Option Nat} (K : Kx E cX0_fillStrokes RX0 (rmd 4 0 0)) (X : Bx E l yX0_fillStrokes 4 none 0 0 ad (QV res)) : ∀ (n : Nat) (S : Hp) (x3 : Int32), B_X0_fillStrokes_2 fu o x1 x2 n S x3 = some res → J E 0 0 2 [(0, vR (some o)), (1, vI x1), (2, vR x2), (3, vI x3)] [] S ad := by
  intro n
  induction n with
  | zero =>
    intro S x3 h
    cases h
  | succ n ih =>
    intro S x3 h
    exact wl_X0_fillStrokes_2 K X ih h
def F_X0_fillStrokes (fu : Nat) (S : Hp) (o : Nat) (x1 : Int32) (x2 : Option Nat) : Option (Hp) :=
  B_X0_fillStrokes_2 fu o x1 x2 fu S (0 : Int32)
set_option maxRecDepth 100000 in
set_option maxHeartbeats 4000000 in
theorem w_X0_fillStrokes {E : Cx} {l : Launch} {res : Hp} {ad : Nat → Nat} {fu : Nat} {S : Hp} {o : Nat} {x1 : Int32} {x2 : Option Nat} (K : Kx E cX0_fillStrokes RX0 (rmd 4 0 0)) (X : Bx E l yX0_fillStrokes 4 none 0 0 ad (QV res)) (h : F_X0_fillStrokes fu S o x1 x2 = some res) : J E 0 0 0 [(0, vR (some o)), (1, vI x1), (2, vR x2)] [] S ad := by
  refine j_iconst (v := (0 : Int32)) K dX0_fillStrokes_0 (by decide) ?_
  refine j_istore_n (lv' := [(3, vI (0 : Int32)), (0, vR (some o)), (1, vI x1), (2, vR x2)]) K dX0_fillStrokes_1 rfl X.2.2.1 (by decide) rfl ?_
  exact j_sub [1, 2, 3, 0] rfl (w_X0_fillStrokes_2 K X _ _ _ h)
theorem c_X0_fillStrokes {l : Launch} {fu : Nat} {S : Hp} {o : Nat} {x1 : Int32} {x2 : Option Nat} {res : Hp} (h : F_X0_fillStrokes fu S o x1 x2 = some res) : Ct l yX0_fillStrokes cX0_fillStrokes 4 none (rmd 4 0 0) 0 0 [vR (some o), vI x1, vR x2] S (QV res) :=
  z_entry (by decide +kernel) (Nat.le_of_ble_eq_true rfl) (fun E ad K X => w_X0_fillStrokes K X h)

theorem dX1_price_0 : decode cX1_price 0 = .ok (.iload_n 0, 1) ∧ 0 + 1 = 1 := ⟨by decide +kernel, rfl⟩
theorem dX1_price_1 : decode cX1_price 1 = .ok (.tableswitch 39 1 4 #[31, 39, 31, 33], 31) := by decide +kernel
theorem dX1_price_32 : decode cX1_price 32 = .ok (.iconst 1, 1) ∧ 32 + 1 = 33 := ⟨by decide +kernel, rfl⟩
theorem dX1_price_33 : decode cX1_price 33 = .ok (.ireturn, 1) := by decide +kernel
theorem dX1_price_34 : decode cX1_price 34 = .ok (.iconst 3, 1) ∧ 34 + 1 = 35 := ⟨by decide +kernel, rfl⟩
theorem dX1_price_35 : decode cX1_price 35 = .ok (.iload_n 1, 1) ∧ 35 + 1 = 36 := ⟨by decide +kernel, rfl⟩
theorem dX1_price_36 : decode cX1_price 36 = .ok (.imul, 1) ∧ 36 + 1 = 37 := ⟨by decide +kernel, rfl⟩
theorem dX1_price_37 : decode cX1_price 37 = .ok (.iload_n 2, 1) ∧ 37 + 1 = 38 := ⟨by decide +kernel, rfl⟩
theorem dX1_price_38 : decode cX1_price 38 = .ok (.iadd, 1) ∧ 38 + 1 = 39 := ⟨by decide +kernel, rfl⟩
theorem dX1_price_39 : decode cX1_price 39 = .ok (.ireturn, 1) := by decide +kernel
theorem dX1_price_40 : decode cX1_price 40 = .ok (.iload_n 1, 1) ∧ 40 + 1 = 41 := ⟨by decide +kernel, rfl⟩
theorem dX1_price_41 : decode cX1_price 41 = .ok (.ireturn, 1) := by decide +kernel
def F_X1_price (S : Hp) (x0 : Int32) (x1 : Int32) (x2 : Int32) : Option (Int32 × Hp) :=
  if x0 = 1 then
    some ((1 : Int32), S)
  else
  if x0 = 2 then
    some (x1, S)
  else
  if x0 = 3 then
    some ((1 : Int32), S)
  else
  if x0 = 4 then
    some ((((3 : Int32) * x1) + x2), S)
  else
  some (x1, S)
set_option maxRecDepth 100000 in
set_option maxHeartbeats 4000000 in
theorem w_X1_price {E : Cx} {l : Launch} {res : Int32 × Hp} {ad : Nat → Nat} {S : Hp} {x0 : Int32} {x1 : Int32} {x2 : Int32} (K : Kx E cX1_price RX1 (rmd 0 0 0)) (X : Bx E l yX1_price 3 (some .int) 0 0 ad (QI res)) (h : F_X1_price S x0 x1 x2 = some res) : J E 0 0 0 [(0, vI x0), (1, vI x1), (2, vI x2)] [] S ad := by
  refine j_iload_n K dX1_price_0 rfl 0 rfl ?_
  by_cases c1_1 : x0 = 1
  · replace h := it c1_1 h
    have t1 : x0.toInt = 1 := by rw [c1_1]; rfl
    refine j_tin (tgt := 32) K dX1_price_1 (by rw [t1]; decide) (by rw [t1]; decide) (by rw [t1]; rfl) (by decide) ?_
    refine j_iconst (v := (1 : Int32)) K dX1_price_32 (by decide) ?_
    exact j_iret K X dX1_price_33 h
  replace h := ie c1_1 h
  by_cases c1_2 : x0 = 2
  · replace h := it c1_2 h
    have t1 : x0.toInt = 2 := by rw [c1_2]; rfl
    refine j_tin (tgt := 40) K dX1_price_1 (by rw [t1]; decide) (by rw [t1]; decide) (by rw [t1]; rfl) (by decide) ?_
    refine j_iload_n K dX1_price_40 rfl 1 rfl ?_
    exact j_iret K X dX1_price_41 h
  replace h := ie c1_2 h
  by_cases c1_3 : x0 = 3
  · replace h := it c1_3 h
    have t1 : x0.toInt = 3 := by rw [c1_3]; rfl
    refine j_tin (tgt := 32) K dX1_price_1 (by rw [t1]; decide) (by rw [t1]; decide) (by rw [t1]; rfl) (by decide) ?_
    refine j_iconst (v := (1 : Int32)) K dX1_price_32 (by decide) ?_
    exact j_iret K X dX1_price_33 h
  replace h := ie c1_3 h
  by_cases c1_4 : x0 = 4
  · replace h := it c1_4 h
    have t1 : x0.toInt = 4 := by rw [c1_4]; rfl
    refine j_tin (tgt := 34) K dX1_price_1 (by rw [t1]; decide) (by rw [t1]; decide) (by rw [t1]; rfl) (by decide) ?_
    refine j_iconst (v := (3 : Int32)) K dX1_price_34 (by decide) ?_
    refine j_iload_n K dX1_price_35 rfl 1 rfl ?_
    refine j_imul K dX1_price_36 ?_
    refine j_iload_n K dX1_price_37 rfl 2 rfl ?_
    refine j_iadd K dX1_price_38 ?_
    exact j_iret K X dX1_price_39 h
  replace h := ie c1_4 h
  have t1_1 : x0.toInt ≠ 1 := swn rfl c1_1
  have t1_2 : x0.toInt ≠ 2 := swn rfl c1_2
  have t1_3 : x0.toInt ≠ 3 := swn rfl c1_3
  have t1_4 : x0.toInt ≠ 4 := swn rfl c1_4
  refine j_tout (tgt := 40) K dX1_price_1 (by omega) (by decide) ?_
  refine j_iload_n K dX1_price_40 rfl 1 rfl ?_
  exact j_iret K X dX1_price_41 h
theorem c_X1_price {l : Launch} {S : Hp} {x0 : Int32} {x1 : Int32} {x2 : Int32} {res : Int32 × Hp} (h : F_X1_price S x0 x1 x2 = some res) : Ct l yX1_price cX1_price 3 (some .int) (rmd 0 0 0) 0 0 [vI x0, vI x1, vI x2] S (QI res) :=
  z_entry (by decide +kernel) (Nat.le_of_ble_eq_true rfl) (fun E ad K X => w_X1_price K X h)

theorem dX0_price_0 : decode cX0_price 0 = .ok (.iconst 0, 1) ∧ 0 + 1 = 1 := ⟨by decide +kernel, rfl⟩
theorem dX0_price_1 : decode cX0_price 1 = .ok (.istore_n 3, 1) ∧ 1 + 1 = 2 := ⟨by decide +kernel, rfl⟩
theorem dX0_price_2 : decode cX0_price 2 = .ok (.iconst 0, 1) ∧ 2 + 1 = 3 := ⟨by decide +kernel, rfl⟩
theorem dX0_price_3 : decode cX0_price 3 = .ok (.istore 4, 2) ∧ 3 + 2 = 5 := ⟨by decide +kernel, rfl⟩
theorem dX0_price_5 : decode cX0_price 5 = .ok (.iload 4, 2) ∧ 5 + 2 = 7 := ⟨by decide +kernel, rfl⟩
theorem dX0_price_7 : decode cX0_price 7 = .ok (.aload_n 0, 1) ∧ 7 + 1 = 8 := ⟨by decide +kernel, rfl⟩
theorem dX0_price_8 : decode cX0_price 8 = .ok (.getfield 28, 3) ∧ 8 + 3 = 11 := ⟨by decide +kernel, rfl⟩
theorem dX0_price_11 : decode cX0_price 11 = .ok (.if_icmp .ge 48, 3) ∧ 11 + 3 = 14 ∧ ((11 : Nat) : Int) + (48) = ((59 : Nat) : Int) := ⟨by decide +kernel, rfl, by decide⟩
theorem dX0_price_14 : decode cX0_price 14 = .ok (.iload_n 2, 1) ∧ 14 + 1 = 15 := ⟨by decide +kernel, rfl⟩
theorem dX0_price_15 : decode cX0_price 15 = .ok (.iload 4, 2) ∧ 15 + 2 = 17 := ⟨by decide +kernel, rfl⟩
theorem dX0_price_17 : decode cX0_price 17 = .ok (.invokestatic 83, 3) := by decide +kernel
theorem dX0_price_20 : decode cX0_price 20 = .ok (.ifCond .eq 33, 3) ∧ 20 + 3 = 23 ∧ ((20 : Nat) : Int) + (33) = ((53 : Nat) : Int) := ⟨by decide +kernel, rfl, by decide⟩
theorem dX0_price_23 : decode cX0_price 23 = .ok (.iload_n 3, 1) ∧ 23 + 1 = 24 := ⟨by decide +kernel, rfl⟩
theorem dX0_price_24 : decode cX0_price 24 = .ok (.aload_n 0, 1) ∧ 24 + 1 = 25 := ⟨by decide +kernel, rfl⟩
theorem dX0_price_25 : decode cX0_price 25 = .ok (.getfield 15, 3) ∧ 25 + 3 = 28 := ⟨by decide +kernel, rfl⟩
theorem dX0_price_28 : decode cX0_price 28 = .ok (.iload_n 1, 1) ∧ 28 + 1 = 29 := ⟨by decide +kernel, rfl⟩
theorem dX0_price_29 : decode cX0_price 29 = .ok (.invokestatic 61, 3) := by decide +kernel
theorem dX0_price_32 : decode cX0_price 32 = .ok (.aload_n 0, 1) ∧ 32 + 1 = 33 := ⟨by decide +kernel, rfl⟩
theorem dX0_price_33 : decode cX0_price 33 = .ok (.iconst 2, 1) ∧ 33 + 1 = 34 := ⟨by decide +kernel, rfl⟩
theorem dX0_price_34 : decode cX0_price 34 = .ok (.iload_n 1, 1) ∧ 34 + 1 = 35 := ⟨by decide +kernel, rfl⟩
theorem dX0_price_35 : decode cX0_price 35 = .ok (.iload 4, 2) ∧ 35 + 2 = 37 := ⟨by decide +kernel, rfl⟩
theorem dX0_price_37 : decode cX0_price 37 = .ok (.invokevirtual 103, 3) := by decide +kernel
theorem dX0_price_40 : decode cX0_price 40 = .ok (.aload_n 0, 1) ∧ 40 + 1 = 41 := ⟨by decide +kernel, rfl⟩
theorem dX0_price_41 : decode cX0_price 41 = .ok (.getfield 19, 3) ∧ 41 + 3 = 44 := ⟨by decide +kernel, rfl⟩
theorem dX0_price_44 : decode cX0_price 44 = .ok (.iload_n 1, 1) ∧ 44 + 1 = 45 := ⟨by decide +kernel, rfl⟩
theorem dX0_price_45 : decode cX0_price 45 = .ok (.invokestatic 61, 3) := by decide +kernel
theorem dX0_price_48 : decode cX0_price 48 = .ok (.invokestatic 115, 3) := by decide +kernel
theorem dX0_price_51 : decode cX0_price 51 = .ok (.iadd, 1) ∧ 51 + 1 = 52 := ⟨by decide +kernel, rfl⟩
theorem dX0_price_52 : decode cX0_price 52 = .ok (.istore_n 3, 1) ∧ 52 + 1 = 53 := ⟨by decide +kernel, rfl⟩
theorem dX0_price_53 : decode cX0_price 53 = .ok (.iinc 4 1, 3) ∧ 53 + 3 = 56 := ⟨by decide +kernel, rfl⟩
theorem dX0_price_56 : decode cX0_price 56 = .ok (.goto (-51), 3) ∧ ((56 : Nat) : Int) + (-51) = ((5 : Nat) : Int) := ⟨by decide +kernel, by decide⟩
theorem dX0_price_59 : decode cX0_price 59 = .ok (.iload_n 3, 1) ∧ 59 + 1 = 60 := ⟨by decide +kernel, rfl⟩
theorem dX0_price_60 : decode cX0_price 60 = .ok (.ireturn, 1) := by decide +kernel
def B_X0_price_53 (k5 : Hp → Int32 → Int32 → Option (Int32 × Hp)) (fu : Nat) (o : Nat) (S : Hp) (x1 : Int32) (x2 : Int32) (x3 : Int32) (x4 : Int32) : Option (Int32 × Hp) :=
  k5 S x3 (x4 + (1 : Int32))
set_option maxRecDepth 100000 in
set_option maxHeartbeats 4000000 in
theorem w_X0_price_53 {E : Cx} {l : Launch} {res : Int32 × Hp} {ad : Nat → Nat} {k5 : Hp → Int32 → Int32 → Option (Int32 × Hp)} {fu : Nat} {o : Nat} {S : Hp} {x1 : Int32} {x2 : Int32} {x3 : Int32} {x4 : Int32} (K : Kx E cX0_price RX0 (rmd 3 0 0)) (X : Bx E l yX0_price 5 (some .int) 0 0 ad (QI res)) (hk5 : ∀ (S : Hp) (x3 : Int32) (x4 : Int32), k5 S x3 x4 = some res → J E 0 0 5 [(0, vR (some o)), (1, vI x1), (2, vI x2), (3, vI x3), (4, vI x4)] [] S ad) (h : B_X0_price_53 k5 fu o S x1 x2 x3 x4 = some res) : J E 0 0 53 [(0, vR (some o)), (1, vI x1), (2, vI x2), (3, vI x3), (4, vI x4)] [] S ad := by
  refine j_iinc (q := 4) (v := (x4 + (1 : Int32))) (lv' := [(4, vI (x4 + (1 : Int32))), (0, vR (some o)), (1, vI x1), (2, vI x2), (3, vI x3)]) K dX0_price_53 rfl rfl X.2.2.1 (by decide) rfl ?_
  refine j_goto K dX0_price_56 ?_
  exact j_sub [1, 2, 3, 4, 0] rfl (hk5 _ _ _ h)
def L_X0_price_5 (k5 : Hp → Int32 → Int32 → Option (Int32 × Hp)) (fu : Nat) (o : Nat) (x1 : Int32) (x2 : Int32) (S : Hp) (x3 : Int32) (x4 : Int32) : Option (Int32 × Hp) :=
  (gI S (some o) 0 5).bind fun v8 =>
  if v8 ≤ x4 then
    some (x3, S)
  else
    b2 (F_X7_hasBit S x2 x4) fun v17 S17 =>
    if v17 = 0 then
      B_X0_price_53 k5 fu o S17 x1 x2 x3 x4
    else
      (gR S17 (some o) 0 1).bind fun v25 =>
      b2 (F_X7_at S17 v25 x1) fun v29 S29 =>
      (ob S29 0 (some o)).bind fun _ =>
      b2 (F_X0_says fu S29 o (2 : Int32) x1 x4) fun v37 S37 =>
      (gR S37 (some o) 0 2).bind fun v41 =>
      b2 (F_X7_at S37 v41 x1) fun v45 S45 =>
      b2 (F_X1_price S45 v29 v37 v45) fun v48 S48 =>
      B_X0_price_53 k5 fu o S48 x1 x2 (x3 + v48) x4
set_option maxRecDepth 100000 in
set_option maxHeartbeats 4000000 in
theorem wl_X0_price_5 {E : Cx} {l : Launch} {res : Int32 × Hp} {ad : Nat → Nat} {k5 : Hp → Int32 → Int32 → Option (Int32 × Hp)} {fu : Nat} {o : Nat} {S : Hp} {x1 : Int32} {x2 : Int32} {x3 : Int32} {x4 : Int32} (K : Kx E cX0_price RX0 (rmd 3 0 0)) (X : Bx E l yX0_price 5 (some .int) 0 0 ad (QI res)) (hk5 : ∀ (S : Hp) (x3 : Int32) (x4 : Int32), k5 S x3 x4 = some res → J E 0 0 5 [(0, vR (some o)), (1, vI x1), (2, vI x2), (3, vI x3), (4, vI x4)] [] S ad) (h : L_X0_price_5 k5 fu o x1 x2 S x3 x4 = some res) : J E 0 0 5 [(0, vR (some o)), (1, vI x1), (2, vI x2), (3, vI x3), (4, vI x4)] [] S ad := by
  refine j_iload K dX0_price_5 4 rfl ?_
  refine j_aload_n K dX0_price_7 rfl 0 rfl ?_
  obtain ⟨v8, e8, h⟩ := bd h
  refine fgX0_28 K dX0_price_8 e8 ?_
  refine j_icmp_ge K dX0_price_11 (fun c11 => ?_) (fun c11 => ?_)
  · replace h := it c11 h
    refine j_iload_n K dX0_price_59 rfl 3 rfl ?_
    exact j_iret K X dX0_price_60 h
  · replace h := ie c11 h
    refine j_iload_n K dX0_price_14 rfl 2 rfl ?_
    refine j_iload K dX0_price_15 4 rfl ?_
    obtain ⟨v17, S17, e17, h⟩ := bd2 h
    refine j_cI (st := []) K (r_SN (vs := [vI x2, vI x4]) (n := 2) (host := RX7) K (c_X7_hasBit e17) dX0_price_17 (List.mem_of_getElem? (i := 14) rfl) z510 z1 z511 ⟨zd_X7_hasBit, rfl, rfl, rfl, ⟨Nat.le_of_ble_eq_true rfl, Nat.le_of_ble_eq_true rfl⟩, Nat.le_of_ble_eq_true rfl, Nat.le_of_ble_eq_true rfl, Nat.le_of_ble_eq_true rfl⟩) rfl ?_
    refine j_if_eq K dX0_price_20 (fun c20 => ?_) (fun c20 => ?_)
    · replace h := it c20 h
      exact w_X0_price_53 K X hk5 h
    · replace h := ie c20 h
      refine j_iload_n K dX0_price_23 rfl 3 rfl ?_
      refine j_aload_n K dX0_price_24 rfl 0 rfl ?_
      obtain ⟨v25, e25, h⟩ := bd h
      refine fgX0_15 K dX0_price_25 e25 ?_
      refine j_iload_n K dX0_price_28 rfl 1 rfl ?_
      obtain ⟨v29, S29, e29, h⟩ := bd2 h
      refine j_cI (st := [vI x3]) K (r_SN (vs := [vR v25, vI x1]) (n := 2) (host := RX7) K (c_X7_at e29) dX0_price_29 (List.mem_of_getElem? (i := 12) rfl) z227 z1 z228 ⟨zd_X7_at, rfl, rfl, rfl, ⟨Nat.le_of_ble_eq_true rfl, Nat.le_of_ble_eq_true rfl⟩, Nat.le_of_ble_eq_true rfl, Nat.le_of_ble_eq_true rfl, Nat.le_of_ble_eq_true rfl⟩) rfl ?_
      refine j_aload_n K dX0_price_32 rfl 0 rfl ?_
      refine j_iconst (v := (2 : Int32)) K dX0_price_33 (by decide) ?_
      refine j_iload_n K dX0_price_34 rfl 1 rfl ?_
      refine j_iload K dX0_price_35 4 rfl ?_
      obtain ⟨w37, ew37, h⟩ := bd h
      have ho37 := obS ew37
      obtain ⟨v37, S37, e37, h⟩ := bd2 h
      refine j_cI (st := [vI v29, vI x3]) K (r_V (vs := [vI (2 : Int32), vI x1, vI x4]) (n := 3) (o := o) K (c_X0_says e37) ho37 (by decide) rfl dX0_price_37 z525 z466 z467 z2 z468 ⟨zd_X0_says, rfl, rfl, rfl, ⟨Nat.le_of_ble_eq_true rfl, Nat.le_of_ble_eq_true rfl⟩, Nat.le_of_ble_eq_true rfl, Nat.le_of_ble_eq_true rfl, Nat.le_of_ble_eq_true rfl⟩) rfl ?_
      refine j_aload_n K dX0_price_40 rfl 0 rfl ?_
      obtain ⟨v41, e41, h⟩ := bd h
      refine fgX0_19 K dX0_price_41 e41 ?_
      refine j_iload_n K dX0_price_44 rfl 1 rfl ?_
      obtain ⟨v45, S45, e45, h⟩ := bd2 h
      refine j_cI (st := [vI v37, vI v29, vI x3]) K (r_SN (vs := [vR v41, vI x1]) (n := 2) (host := RX7) K (c_X7_at e45) dX0_price_45 (List.mem_of_getElem? (i := 12) rfl) z227 z1 z228 ⟨zd_X7_at, rfl, rfl, rfl, ⟨Nat.le_of_ble_eq_true rfl, Nat.le_of_ble_eq_true rfl⟩, Nat.le_of_ble_eq_true rfl, Nat.le_of_ble_eq_true rfl, Nat.le_of_ble_eq_true rfl⟩) rfl ?_
      obtain ⟨v48, S48, e48, h⟩ := bd2 h
      refine j_cI (st := [vI x3]) K (r_S (vs := [vI v29, vI v37, vI v45]) (n := 3) K (c_X1_price e48) dX0_price_48 z611 z612 z15 z613 ⟨zd_X1_price, rfl, rfl, rfl, ⟨Nat.le_of_ble_eq_true rfl, Nat.le_of_ble_eq_true rfl⟩, Nat.le_of_ble_eq_true rfl, Nat.le_of_ble_eq_true rfl, Nat.le_of_ble_eq_true rfl⟩) rfl ?_
      refine j_iadd K dX0_price_51 ?_
      refine j_istore_n (lv' := [(3, vI (x3 + v48)), (0, vR (some o)), (1, vI x1), (2, vI x2), (4, vI x4)]) K dX0_price_52 rfl X.2.2.1 (by decide) rfl ?_
      exact j_sub [1, 2, 3, 0, 4] rfl (w_X0_price_53 K X hk5 h)
def B_X0_price_5 (fu : Nat) (o : Nat) (x1 : Int32) (x2 : Int32) : Nat → Hp → Int32 → Int32 → Option (Int32 × Hp)
  | 0 => fun _ _ _ => none
  | n + 1 => L_X0_price_5 (B_X0_price_5 fu o x1 x2 n) fu o x1 x2
theorem w_X0_price_5 {E : Cx} {l : Launch} {res : Int32 × Hp} {ad : Nat → Nat} {fu : Nat} {o : Nat} {x1 : Int32} {x2 : Int32} (K : Kx E cX0_price RX0 (rmd 3 0 0)) (X : Bx E l yX0_price 5 (some .int) 0 0 ad (QI res)) : ∀ (n : Nat) (S : Hp) (x3 : Int32) (x4 : Int32), B_X0_price_5 fu o x1 x2 n S x3 x4 = some res → J E 0 0 5 [(0, vR (some o)), (1, vI x1), (2, vI x2), (3, vI x3), (4, vI x4)] [] S ad := by
  intro n
  induction n with
  | zero =>
    intro S x3 x4 h
    cases h
  | succ n ih =>
    intro S x3 x4 h
    exact wl_X0_price_5 K X ih h
def F_X0_price (fu : Nat) (S : Hp) (o : Nat) (x1 : Int32) (x2 : Int32) : Option (Int32 × Hp) :=
  B_X0_price_5 fu o x1 x2 fu S (0 : Int32) (0 : Int32)
set_option maxRecDepth 100000 in
set_option maxHeartbeats 4000000 in
theorem w_X0_price {E : Cx} {l : Launch} {res : Int32 × Hp} {ad : Nat → Nat} {fu : Nat} {S : Hp} {o : Nat} {x1 : Int32} {x2 : Int32} (K : Kx E cX0_price RX0 (rmd 3 0 0)) (X : Bx E l yX0_price 5 (some .int) 0 0 ad (QI res)) (h : F_X0_price fu S o x1 x2 = some res) : J E 0 0 0 [(0, vR (some o)), (1, vI x1), (2, vI x2)] [] S ad := by
  refine j_iconst (v := (0 : Int32)) K dX0_price_0 (by decide) ?_
  refine j_istore_n (lv' := [(3, vI (0 : Int32)), (0, vR (some o)), (1, vI x1), (2, vI x2)]) K dX0_price_1 rfl X.2.2.1 (by decide) rfl ?_
  refine j_iconst (v := (0 : Int32)) K dX0_price_2 (by decide) ?_
  refine j_istore (lv' := [(4, vI (0 : Int32)), (3, vI (0 : Int32)), (0, vR (some o)), (1, vI x1), (2, vI x2)]) K dX0_price_3 X.2.2.1 (by decide) rfl ?_
  exact j_sub [2, 3, 4, 1, 0] rfl (w_X0_price_5 K X _ _ _ _ h)
theorem c_X0_price {l : Launch} {fu : Nat} {S : Hp} {o : Nat} {x1 : Int32} {x2 : Int32} {res : Int32 × Hp} (h : F_X0_price fu S o x1 x2 = some res) : Ct l yX0_price cX0_price 5 (some .int) (rmd 3 0 0) 0 0 [vR (some o), vI x1, vI x2] S (QI res) :=
  z_entry (by decide +kernel) (Nat.le_of_ble_eq_true rfl) (fun E ad K X => w_X0_price K X h)

theorem dX0_beats_0 : decode cX0_beats 0 = .ok (.iconst 0, 1) ∧ 0 + 1 = 1 := ⟨by decide +kernel, rfl⟩
theorem dX0_beats_1 : decode cX0_beats 1 = .ok (.istore_n 2, 1) ∧ 1 + 1 = 2 := ⟨by decide +kernel, rfl⟩
theorem dX0_beats_2 : decode cX0_beats 2 = .ok (.iconst 0, 1) ∧ 2 + 1 = 3 := ⟨by decide +kernel, rfl⟩
theorem dX0_beats_3 : decode cX0_beats 3 = .ok (.istore_n 3, 1) ∧ 3 + 1 = 4 := ⟨by decide +kernel, rfl⟩
theorem dX0_beats_4 : decode cX0_beats 4 = .ok (.iload_n 3, 1) ∧ 4 + 1 = 5 := ⟨by decide +kernel, rfl⟩
theorem dX0_beats_5 : decode cX0_beats 5 = .ok (.aload_n 0, 1) ∧ 5 + 1 = 6 := ⟨by decide +kernel, rfl⟩
theorem dX0_beats_6 : decode cX0_beats 6 = .ok (.getfield 28, 3) ∧ 6 + 3 = 9 := ⟨by decide +kernel, rfl⟩
theorem dX0_beats_9 : decode cX0_beats 9 = .ok (.if_icmp .ge 37, 3) ∧ 9 + 3 = 12 ∧ ((9 : Nat) : Int) + (37) = ((46 : Nat) : Int) := ⟨by decide +kernel, rfl, by decide⟩
theorem dX0_beats_12 : decode cX0_beats 12 = .ok (.iload_n 2, 1) ∧ 12 + 1 = 13 := ⟨by decide +kernel, rfl⟩
theorem dX0_beats_13 : decode cX0_beats 13 = .ok (.aload_n 0, 1) ∧ 13 + 1 = 14 := ⟨by decide +kernel, rfl⟩
theorem dX0_beats_14 : decode cX0_beats 14 = .ok (.getfield 31, 3) ∧ 14 + 3 = 17 := ⟨by decide +kernel, rfl⟩
theorem dX0_beats_17 : decode cX0_beats 17 = .ok (.iload_n 3, 1) ∧ 17 + 1 = 18 := ⟨by decide +kernel, rfl⟩
theorem dX0_beats_18 : decode cX0_beats 18 = .ok (.invokestatic 61, 3) := by decide +kernel
theorem dX0_beats_21 : decode cX0_beats 21 = .ok (.iload_n 1, 1) ∧ 21 + 1 = 22 := ⟨by decide +kernel, rfl⟩
theorem dX0_beats_22 : decode cX0_beats 22 = .ok (.invokestatic 83, 3) := by decide +kernel
theorem dX0_beats_25 : decode cX0_beats 25 = .ok (.ifCond .eq 12, 3) ∧ 25 + 3 = 28 ∧ ((25 : Nat) : Int) + (12) = ((37 : Nat) : Int) := ⟨by decide +kernel, rfl, by decide⟩
theorem dX0_beats_28 : decode cX0_beats 28 = .ok (.aload_n 0, 1) ∧ 28 + 1 = 29 := ⟨by decide +kernel, rfl⟩
theorem dX0_beats_29 : decode cX0_beats 29 = .ok (.iload_n 1, 1) ∧ 29 + 1 = 30 := ⟨by decide +kernel, rfl⟩
theorem dX0_beats_30 : decode cX0_beats 30 = .ok (.iload_n 3, 1) ∧ 30 + 1 = 31 := ⟨by decide +kernel, rfl⟩
theorem dX0_beats_31 : decode cX0_beats 31 = .ok (.invokevirtual 113, 3) := by decide +kernel
theorem dX0_beats_34 : decode cX0_beats 34 = .ok (.goto 4, 3) ∧ ((34 : Nat) : Int) + (4) = ((38 : Nat) : Int) := ⟨by decide +kernel, by decide⟩
theorem dX0_beats_37 : decode cX0_beats 37 = .ok (.iconst 0, 1) ∧ 37 + 1 = 38 := ⟨by decide +kernel, rfl⟩
theorem dX0_beats_38 : decode cX0_beats 38 = .ok (.iadd, 1) ∧ 38 + 1 = 39 := ⟨by decide +kernel, rfl⟩
theorem dX0_beats_39 : decode cX0_beats 39 = .ok (.istore_n 2, 1) ∧ 39 + 1 = 40 := ⟨by decide +kernel, rfl⟩
theorem dX0_beats_40 : decode cX0_beats 40 = .ok (.iinc 3 1, 3) ∧ 40 + 3 = 43 := ⟨by decide +kernel, rfl⟩
theorem dX0_beats_43 : decode cX0_beats 43 = .ok (.goto (-39), 3) ∧ ((43 : Nat) : Int) + (-39) = ((4 : Nat) : Int) := ⟨by decide +kernel, by decide⟩
theorem dX0_beats_46 : decode cX0_beats 46 = .ok (.iload_n 2, 1) ∧ 46 + 1 = 47 := ⟨by decide +kernel, rfl⟩
theorem dX0_beats_47 : decode cX0_beats 47 = .ok (.ireturn, 1) := by decide +kernel
def B_X0_beats_38 (k4 : Hp → Int32 → Int32 → Option (Int32 × Hp)) (fu : Nat) (o : Nat) (S : Hp) (x1 : Int32) (x3 : Int32) (s0 : Int32) (s1 : Int32) : Option (Int32 × Hp) :=
  k4 S (s1 + s0) (x3 + (1 : Int32))
set_option maxRecDepth 100000 in
set_option maxHeartbeats 4000000 in
theorem w_X0_beats_38 {E : Cx} {l : Launch} {res : Int32 × Hp} {ad : Nat → Nat} {k4 : Hp → Int32 → Int32 → Option (Int32 × Hp)} {fu : Nat} {o : Nat} {S : Hp} {x1 : Int32} {x3 : Int32} {s0 : Int32} {s1 : Int32} (K : Kx E cX0_beats RX0 (rmd 4 0 0)) (X : Bx E l yX0_beats 4 (some .int) 0 0 ad (QI res)) (hk4 : ∀ (S : Hp) (x2 : Int32) (x3 : Int32), k4 S x2 x3 = some res → J E 0 0 4 [(0, vR (some o)), (1, vI x1), (2, vI x2), (3, vI x3)] [] S ad) (h : B_X0_beats_38 k4 fu o S x1 x3 s0 s1 = some res) : J E 0 0 38 [(0, vR (some o)), (1, vI x1), (3, vI x3)] [vI s0, vI s1] S ad := by
  refine j_iadd K dX0_beats_38 ?_
  refine j_istore_n (lv' := [(2, vI (s1 + s0)), (0, vR (some o)), (1, vI x1), (3, vI x3)]) K dX0_beats_39 rfl X.2.2.1 (by decide) rfl ?_
  refine j_iinc (q := 3) (v := (x3 + (1 : Int32))) (lv' := [(3, vI (x3 + (1 : Int32))), (2, vI (s1 + s0)), (0, vR (some o)), (1, vI x1)]) K dX0_beats_40 rfl rfl X.2.2.1 (by decide) rfl ?_
  refine j_goto K dX0_beats_43 ?_
  exact j_sub [2, 3, 1, 0] rfl (hk4 _ _ _ h)
def L_X0_beats_4 (k4 : Hp → Int32 → Int32 → Option (Int32 × Hp)) (fu : Nat) (o : Nat) (x1 : Int32) (S : Hp) (x2 : Int32) (x3 : Int32) : Option (Int32 × Hp) :=
  (gI S (some o) 0 5).bind fun v6 =>
  if v6 ≤ x3 then
    some (x2, S)
  else
    (gR S (some o) 0 6).bind fun v14 =>
    b2 (F_X7_at S v14 x3) fun v18 S18 =>
    b2 (F_X7_hasBit S18 v18 x1) fun v22 S22 =>
    if v22 = 0 then
      B_X0_beats_38 k4 fu o S22 x1 x3 (0 : Int32) x2
    else
      (ob S22 0 (some o)).bind fun _ =>
      b2 (F_X0_strokes fu S22 o x1 x3) fun v31 S31 =>
      B_X0_beats_38 k4 fu o S31 x1 x3 v31 x2
set_option maxRecDepth 100000 in
set_option maxHeartbeats 4000000 in
theorem wl_X0_beats_4 {E : Cx} {l : Launch} {res : Int32 × Hp} {ad : Nat → Nat} {k4 : Hp → Int32 → Int32 → Option (Int32 × Hp)} {fu : Nat} {o : Nat} {S : Hp} {x1 : Int32} {x2 : Int32} {x3 : Int32} (K : Kx E cX0_beats RX0 (rmd 4 0 0)) (X : Bx E l yX0_beats 4 (some .int) 0 0 ad (QI res)) (hk4 : ∀ (S : Hp) (x2 : Int32) (x3 : Int32), k4 S x2 x3 = some res → J E 0 0 4 [(0, vR (some o)), (1, vI x1), (2, vI x2), (3, vI x3)] [] S ad) (h : L_X0_beats_4 k4 fu o x1 S x2 x3 = some res) : J E 0 0 4 [(0, vR (some o)), (1, vI x1), (2, vI x2), (3, vI x3)] [] S ad := by
  refine j_iload_n K dX0_beats_4 rfl 3 rfl ?_
  refine j_aload_n K dX0_beats_5 rfl 0 rfl ?_
  obtain ⟨v6, e6, h⟩ := bd h
  refine fgX0_28 K dX0_beats_6 e6 ?_
  refine j_icmp_ge K dX0_beats_9 (fun c9 => ?_) (fun c9 => ?_)
  · replace h := it c9 h
    refine j_iload_n K dX0_beats_46 rfl 2 rfl ?_
    exact j_iret K X dX0_beats_47 h
  · replace h := ie c9 h
    refine j_iload_n K dX0_beats_12 rfl 2 rfl ?_
    refine j_aload_n K dX0_beats_13 rfl 0 rfl ?_
    obtain ⟨v14, e14, h⟩ := bd h
    refine fgX0_31 K dX0_beats_14 e14 ?_
    refine j_iload_n K dX0_beats_17 rfl 3 rfl ?_
    obtain ⟨v18, S18, e18, h⟩ := bd2 h
    refine j_cI (st := [vI x2]) K (r_SN (vs := [vR v14, vI x3]) (n := 2) (host := RX7) K (c_X7_at e18) dX0_beats_18 (List.mem_of_getElem? (i := 12) rfl) z227 z1 z228 ⟨zd_X7_at, rfl, rfl, rfl, ⟨Nat.le_of_ble_eq_true rfl, Nat.le_of_ble_eq_true rfl⟩, Nat.le_of_ble_eq_true rfl, Nat.le_of_ble_eq_true rfl, Nat.le_of_ble_eq_true rfl⟩) rfl ?_
    refine j_iload_n K dX0_beats_21 rfl 1 rfl ?_
    obtain ⟨v22, S22, e22, h⟩ := bd2 h
    refine j_cI (st := [vI x2]) K (r_SN (vs := [vI v18, vI x1]) (n := 2) (host := RX7) K (c_X7_hasBit e22) dX0_beats_22 (List.mem_of_getElem? (i := 14) rfl) z510 z1 z511 ⟨zd_X7_hasBit, rfl, rfl, rfl, ⟨Nat.le_of_ble_eq_true rfl, Nat.le_of_ble_eq_true rfl⟩, Nat.le_of_ble_eq_true rfl, Nat.le_of_ble_eq_true rfl, Nat.le_of_ble_eq_true rfl⟩) rfl ?_
    refine j_if_eq K dX0_beats_25 (fun c25 => ?_) (fun c25 => ?_)
    · replace h := it c25 h
      refine j_iconst (v := (0 : Int32)) K dX0_beats_37 (by decide) ?_
      exact j_sub [0, 1, 3] rfl (w_X0_beats_38 K X hk4 h)
    · replace h := ie c25 h
      refine j_aload_n K dX0_beats_28 rfl 0 rfl ?_
      refine j_iload_n K dX0_beats_29 rfl 1 rfl ?_
      refine j_iload_n K dX0_beats_30 rfl 3 rfl ?_
      obtain ⟨w31, ew31, h⟩ := bd h
      have ho31 := obS ew31
      obtain ⟨v31, S31, e31, h⟩ := bd2 h
      refine j_cI (st := [vI x2]) K (r_V (vs := [vI x1, vI x3]) (n := 2) (o := o) K (c_X0_strokes e31) ho31 (by decide) rfl dX0_beats_31 z521 z522 z523 z2 z524 ⟨zd_X0_strokes, rfl, rfl, rfl, ⟨Nat.le_of_ble_eq_true rfl, Nat.le_of_ble_eq_true rfl⟩, Nat.le_of_ble_eq_true rfl, Nat.le_of_ble_eq_true rfl, Nat.le_of_ble_eq_true rfl⟩) rfl ?_
      refine j_goto K dX0_beats_34 ?_
      exact j_sub [0, 1, 3] rfl (w_X0_beats_38 K X hk4 h)
def B_X0_beats_4 (fu : Nat) (o : Nat) (x1 : Int32) : Nat → Hp → Int32 → Int32 → Option (Int32 × Hp)
  | 0 => fun _ _ _ => none
  | n + 1 => L_X0_beats_4 (B_X0_beats_4 fu o x1 n) fu o x1
theorem w_X0_beats_4 {E : Cx} {l : Launch} {res : Int32 × Hp} {ad : Nat → Nat} {fu : Nat} {o : Nat} {x1 : Int32} (K : Kx E cX0_beats RX0 (rmd 4 0 0)) (X : Bx E l yX0_beats 4 (some .int) 0 0 ad (QI res)) : ∀ (n : Nat) (S : Hp) (x2 : Int32) (x3 : Int32), B_X0_beats_4 fu o x1 n S x2 x3 = some res → J E 0 0 4 [(0, vR (some o)), (1, vI x1), (2, vI x2), (3, vI x3)] [] S ad := by
  intro n
  induction n with
  | zero =>
    intro S x2 x3 h
    cases h
  | succ n ih =>
    intro S x2 x3 h
    exact wl_X0_beats_4 K X ih h
def F_X0_beats (fu : Nat) (S : Hp) (o : Nat) (x1 : Int32) : Option (Int32 × Hp) :=
  B_X0_beats_4 fu o x1 fu S (0 : Int32) (0 : Int32)
set_option maxRecDepth 100000 in
set_option maxHeartbeats 4000000 in
theorem w_X0_beats {E : Cx} {l : Launch} {res : Int32 × Hp} {ad : Nat → Nat} {fu : Nat} {S : Hp} {o : Nat} {x1 : Int32} (K : Kx E cX0_beats RX0 (rmd 4 0 0)) (X : Bx E l yX0_beats 4 (some .int) 0 0 ad (QI res)) (h : F_X0_beats fu S o x1 = some res) : J E 0 0 0 [(0, vR (some o)), (1, vI x1)] [] S ad := by
  refine j_iconst (v := (0 : Int32)) K dX0_beats_0 (by decide) ?_
  refine j_istore_n (lv' := [(2, vI (0 : Int32)), (0, vR (some o)), (1, vI x1)]) K dX0_beats_1 rfl X.2.2.1 (by decide) rfl ?_
  refine j_iconst (v := (0 : Int32)) K dX0_beats_2 (by decide) ?_
  refine j_istore_n (lv' := [(3, vI (0 : Int32)), (2, vI (0 : Int32)), (0, vR (some o)), (1, vI x1)]) K dX0_beats_3 rfl X.2.2.1 (by decide) rfl ?_
  exact j_sub [2, 3, 1, 0] rfl (w_X0_beats_4 K X _ _ _ _ h)
theorem c_X0_beats {l : Launch} {fu : Nat} {S : Hp} {o : Nat} {x1 : Int32} {res : Int32 × Hp} (h : F_X0_beats fu S o x1 = some res) : Ct l yX0_beats cX0_beats 4 (some .int) (rmd 4 0 0) 0 0 [vR (some o), vI x1] S (QI res) :=
  z_entry (by decide +kernel) (Nat.le_of_ble_eq_true rfl) (fun E ad K X => w_X0_beats K X h)

theorem dX0_beatsOfAll_0 : decode cX0_beatsOfAll 0 = .ok (.iconst 0, 1) ∧ 0 + 1 = 1 := ⟨by decide +kernel, rfl⟩
theorem dX0_beatsOfAll_1 : decode cX0_beatsOfAll 1 = .ok (.istore_n 1, 1) ∧ 1 + 1 = 2 := ⟨by decide +kernel, rfl⟩
theorem dX0_beatsOfAll_2 : decode cX0_beatsOfAll 2 = .ok (.iconst 0, 1) ∧ 2 + 1 = 3 := ⟨by decide +kernel, rfl⟩
theorem dX0_beatsOfAll_3 : decode cX0_beatsOfAll 3 = .ok (.istore_n 2, 1) ∧ 3 + 1 = 4 := ⟨by decide +kernel, rfl⟩
theorem dX0_beatsOfAll_4 : decode cX0_beatsOfAll 4 = .ok (.iload_n 2, 1) ∧ 4 + 1 = 5 := ⟨by decide +kernel, rfl⟩
theorem dX0_beatsOfAll_5 : decode cX0_beatsOfAll 5 = .ok (.aload_n 0, 1) ∧ 5 + 1 = 6 := ⟨by decide +kernel, rfl⟩
theorem dX0_beatsOfAll_6 : decode cX0_beatsOfAll 6 = .ok (.getfield 9, 3) ∧ 6 + 3 = 9 := ⟨by decide +kernel, rfl⟩
theorem dX0_beatsOfAll_9 : decode cX0_beatsOfAll 9 = .ok (.if_icmp .ge 17, 3) ∧ 9 + 3 = 12 ∧ ((9 : Nat) : Int) + (17) = ((26 : Nat) : Int) := ⟨by decide +kernel, rfl, by decide⟩
theorem dX0_beatsOfAll_12 : decode cX0_beatsOfAll 12 = .ok (.iload_n 1, 1) ∧ 12 + 1 = 13 := ⟨by decide +kernel, rfl⟩
theorem dX0_beatsOfAll_13 : decode cX0_beatsOfAll 13 = .ok (.aload_n 0, 1) ∧ 13 + 1 = 14 := ⟨by decide +kernel, rfl⟩
theorem dX0_beatsOfAll_14 : decode cX0_beatsOfAll 14 = .ok (.iload_n 2, 1) ∧ 14 + 1 = 15 := ⟨by decide +kernel, rfl⟩
theorem dX0_beatsOfAll_15 : decode cX0_beatsOfAll 15 = .ok (.invokevirtual 118, 3) := by decide +kernel
theorem dX0_beatsOfAll_18 : decode cX0_beatsOfAll 18 = .ok (.iadd, 1) ∧ 18 + 1 = 19 := ⟨by decide +kernel, rfl⟩
theorem dX0_beatsOfAll_19 : decode cX0_beatsOfAll 19 = .ok (.istore_n 1, 1) ∧ 19 + 1 = 20 := ⟨by decide +kernel, rfl⟩
theorem dX0_beatsOfAll_20 : decode cX0_beatsOfAll 20 = .ok (.iinc 2 1, 3) ∧ 20 + 3 = 23 := ⟨by decide +kernel, rfl⟩
theorem dX0_beatsOfAll_23 : decode cX0_beatsOfAll 23 = .ok (.goto (-19), 3) ∧ ((23 : Nat) : Int) + (-19) = ((4 : Nat) : Int) := ⟨by decide +kernel, by decide⟩
theorem dX0_beatsOfAll_26 : decode cX0_beatsOfAll 26 = .ok (.iload_n 1, 1) ∧ 26 + 1 = 27 := ⟨by decide +kernel, rfl⟩
theorem dX0_beatsOfAll_27 : decode cX0_beatsOfAll 27 = .ok (.ireturn, 1) := by decide +kernel
def L_X0_beatsOfAll_4 (k4 : Hp → Int32 → Int32 → Option (Int32 × Hp)) (fu : Nat) (o : Nat) (S : Hp) (x1 : Int32) (x2 : Int32) : Option (Int32 × Hp) :=
  (gI S (some o) 0 0).bind fun v6 =>
  if v6 ≤ x2 then
    some (x1, S)
  else
    (ob S 0 (some o)).bind fun _ =>
    b2 (F_X0_beats fu S o x2) fun v15 S15 =>
    k4 S15 (x1 + v15) (x2 + (1 : Int32))
set_option maxRecDepth 100000 in
set_option maxHeartbeats 4000000 in
theorem wl_X0_beatsOfAll_4 {E : Cx} {l : Launch} {res : Int32 × Hp} {ad : Nat → Nat} {k4 : Hp → Int32 → Int32 → Option (Int32 × Hp)} {fu : Nat} {o : Nat} {S : Hp} {x1 : Int32} {x2 : Int32} (K : Kx E cX0_beatsOfAll RX0 (rmd 5 0 0)) (X : Bx E l yX0_beatsOfAll 3 (some .int) 0 0 ad (QI res)) (hk4 : ∀ (S : Hp) (x1 : Int32) (x2 : Int32), k4 S x1 x2 = some res → J E 0 0 4 [(0, vR (some o)), (1, vI x1), (2, vI x2)] [] S ad) (h : L_X0_beatsOfAll_4 k4 fu o S x1 x2 = some res) : J E 0 0 4 [(0, vR (some o)), (1, vI x1), (2, vI x2)] [] S ad := by
  refine j_iload_n K dX0_beatsOfAll_4 rfl 2 rfl ?_
  refine j_aload_n K dX0_beatsOfAll_5 rfl 0 rfl ?_
  obtain ⟨v6, e6, h⟩ := bd h
  refine fgX0_9 K dX0_beatsOfAll_6 e6 ?_
  refine j_icmp_ge K dX0_beatsOfAll_9 (fun c9 => ?_) (fun c9 => ?_)
  · replace h := it c9 h
    refine j_iload_n K dX0_beatsOfAll_26 rfl 1 rfl ?_
    exact j_iret K X dX0_beatsOfAll_27 h
  · replace h := ie c9 h
    refine j_iload_n K dX0_beatsOfAll_12 rfl 1 rfl ?_
    refine j_aload_n K dX0_beatsOfAll_13 rfl 0 rfl ?_
    refine j_iload_n K dX0_beatsOfAll_14 rfl 2 rfl ?_
    obtain ⟨w15, ew15, h⟩ := bd h
    have ho15 := obS ew15
    obtain ⟨v15, S15, e15, h⟩ := bd2 h
    refine j_cI (st := [vI x1]) K (r_V (vs := [vI x2]) (n := 1) (o := o) K (c_X0_beats e15) ho15 (by decide) rfl dX0_beatsOfAll_15 z557 z518 z519 z2 z520 ⟨zd_X0_beats, rfl, rfl, rfl, ⟨Nat.le_of_ble_eq_true rfl, Nat.le_of_ble_eq_true rfl⟩, Nat.le_of_ble_eq_true rfl, Nat.le_of_ble_eq_true rfl, Nat.le_of_ble_eq_true rfl⟩) rfl ?_
    refine j_iadd K dX0_beatsOfAll_18 ?_
    refine j_istore_n (lv' := [(1, vI (x1 + v15)), (0, vR (some o)), (2, vI x2)]) K dX0_beatsOfAll_19 rfl X.2.2.1 (by decide) rfl ?_
    refine j_iinc (q := 2) (v := (x2 + (1 : Int32))) (lv' := [(2, vI (x2 + (1 : Int32))), (1, vI (x1 + v15)), (0, vR (some o))]) K dX0_beatsOfAll_20 rfl rfl X.2.2.1 (by decide) rfl ?_
    refine j_goto K dX0_beatsOfAll_23 ?_
    exact j_sub [2, 1, 0] rfl (hk4 _ _ _ h)
def B_X0_beatsOfAll_4 (fu : Nat) (o : Nat) : Nat → Hp → Int32 → Int32 → Option (Int32 × Hp)
  | 0 => fun _ _ _ => none
  | n + 1 => L_X0_beatsOfAll_4 (B_X0_beatsOfAll_4 fu o n) fu o
theorem w_X0_beatsOfAll_4 {E : Cx} {l : Launch} {res : Int32 × Hp} {ad : Nat → Nat} {fu : Nat} {o : Nat} (K : Kx E cX0_beatsOfAll RX0 (rmd 5 0 0)) (X : Bx E l yX0_beatsOfAll 3 (some .int) 0 0 ad (QI res)) : ∀ (n : Nat) (S : Hp) (x1 : Int32) (x2 : Int32), B_X0_beatsOfAll_4 fu o n S x1 x2 = some res → J E 0 0 4 [(0, vR (some o)), (1, vI x1), (2, vI x2)] [] S ad := by
  intro n
  induction n with
  | zero =>
    intro S x1 x2 h
    cases h
  | succ n ih =>
    intro S x1 x2 h
    exact wl_X0_beatsOfAll_4 K X ih h
def F_X0_beatsOfAll (fu : Nat) (S : Hp) (o : Nat) : Option (Int32 × Hp) :=
  B_X0_beatsOfAll_4 fu o fu S (0 : Int32) (0 : Int32)
set_option maxRecDepth 100000 in
set_option maxHeartbeats 4000000 in
theorem w_X0_beatsOfAll {E : Cx} {l : Launch} {res : Int32 × Hp} {ad : Nat → Nat} {fu : Nat} {S : Hp} {o : Nat} (K : Kx E cX0_beatsOfAll RX0 (rmd 5 0 0)) (X : Bx E l yX0_beatsOfAll 3 (some .int) 0 0 ad (QI res)) (h : F_X0_beatsOfAll fu S o = some res) : J E 0 0 0 [(0, vR (some o))] [] S ad := by
  refine j_iconst (v := (0 : Int32)) K dX0_beatsOfAll_0 (by decide) ?_
  refine j_istore_n (lv' := [(1, vI (0 : Int32)), (0, vR (some o))]) K dX0_beatsOfAll_1 rfl X.2.2.1 (by decide) rfl ?_
  refine j_iconst (v := (0 : Int32)) K dX0_beatsOfAll_2 (by decide) ?_
  refine j_istore_n (lv' := [(2, vI (0 : Int32)), (1, vI (0 : Int32)), (0, vR (some o))]) K dX0_beatsOfAll_3 rfl X.2.2.1 (by decide) rfl ?_
  exact j_sub [2, 1, 0] rfl (w_X0_beatsOfAll_4 K X _ _ _ _ h)
theorem c_X0_beatsOfAll {l : Launch} {fu : Nat} {S : Hp} {o : Nat} {res : Int32 × Hp} (h : F_X0_beatsOfAll fu S o = some res) : Ct l yX0_beatsOfAll cX0_beatsOfAll 3 (some .int) (rmd 5 0 0) 0 0 [vR (some o)] S (QI res) :=
  z_entry (by decide +kernel) (Nat.le_of_ble_eq_true rfl) (fun E ad K X => w_X0_beatsOfAll K X h)

theorem dX0_loudest_0 : decode cX0_loudest 0 = .ok (.iconst (-1), 1) ∧ 0 + 1 = 1 := ⟨by decide +kernel, rfl⟩
theorem dX0_loudest_1 : decode cX0_loudest 1 = .ok (.istore_n 1, 1) ∧ 1 + 1 = 2 := ⟨by decide +kernel, rfl⟩
theorem dX0_loudest_2 : decode cX0_loudest 2 = .ok (.iconst 0, 1) ∧ 2 + 1 = 3 := ⟨by decide +kernel, rfl⟩
theorem dX0_loudest_3 : decode cX0_loudest 3 = .ok (.istore_n 2, 1) ∧ 3 + 1 = 4 := ⟨by decide +kernel, rfl⟩
theorem dX0_loudest_4 : decode cX0_loudest 4 = .ok (.iconst 0, 1) ∧ 4 + 1 = 5 := ⟨by decide +kernel, rfl⟩
theorem dX0_loudest_5 : decode cX0_loudest 5 = .ok (.istore_n 3, 1) ∧ 5 + 1 = 6 := ⟨by decide +kernel, rfl⟩
theorem dX0_loudest_6 : decode cX0_loudest 6 = .ok (.iload_n 3, 1) ∧ 6 + 1 = 7 := ⟨by decide +kernel, rfl⟩
theorem dX0_loudest_7 : decode cX0_loudest 7 = .ok (.aload_n 0, 1) ∧ 7 + 1 = 8 := ⟨by decide +kernel, rfl⟩
theorem dX0_loudest_8 : decode cX0_loudest 8 = .ok (.getfield 9, 3) ∧ 8 + 3 = 11 := ⟨by decide +kernel, rfl⟩
theorem dX0_loudest_11 : decode cX0_loudest 11 = .ok (.if_icmp .ge 27, 3) ∧ 11 + 3 = 14 ∧ ((11 : Nat) : Int) + (27) = ((38 : Nat) : Int) := ⟨by decide +kernel, rfl, by decide⟩
theorem dX0_loudest_14 : decode cX0_loudest 14 = .ok (.aload_n 0, 1) ∧ 14 + 1 = 15 := ⟨by decide +kernel, rfl⟩
theorem dX0_loudest_15 : decode cX0_loudest 15 = .ok (.iload_n 3, 1) ∧ 15 + 1 = 16 := ⟨by decide +kernel, rfl⟩
theorem dX0_loudest_16 : decode cX0_loudest 16 = .ok (.invokevirtual 118, 3) := by decide +kernel
theorem dX0_loudest_19 : decode cX0_loudest 19 = .ok (.istore 4, 2) ∧ 19 + 2 = 21 := ⟨by decide +kernel, rfl⟩
theorem dX0_loudest_21 : decode cX0_loudest 21 = .ok (.iload 4, 2) ∧ 21 + 2 = 23 := ⟨by decide +kernel, rfl⟩
theorem dX0_loudest_23 : decode cX0_loudest 23 = .ok (.iload_n 2, 1) ∧ 23 + 1 = 24 := ⟨by decide +kernel, rfl⟩
theorem dX0_loudest_24 : decode cX0_loudest 24 = .ok (.if_icmp .le 8, 3) ∧ 24 + 3 = 27 ∧ ((24 : Nat) : Int) + (8) = ((32 : Nat) : Int) := ⟨by decide +kernel, rfl, by decide⟩
theorem dX0_loudest_27 : decode cX0_loudest 27 = .ok (.iload 4, 2) ∧ 27 + 2 = 29 := ⟨by decide +kernel, rfl⟩
theorem dX0_loudest_29 : decode cX0_loudest 29 = .ok (.istore_n 2, 1) ∧ 29 + 1 = 30 := ⟨by decide +kernel, rfl⟩
theorem dX0_loudest_30 : decode cX0_loudest 30 = .ok (.iload_n 3, 1) ∧ 30 + 1 = 31 := ⟨by decide +kernel, rfl⟩
theorem dX0_loudest_31 : decode cX0_loudest 31 = .ok (.istore_n 1, 1) ∧ 31 + 1 = 32 := ⟨by decide +kernel, rfl⟩
theorem dX0_loudest_32 : decode cX0_loudest 32 = .ok (.iinc 3 1, 3) ∧ 32 + 3 = 35 := ⟨by decide +kernel, rfl⟩
theorem dX0_loudest_35 : decode cX0_loudest 35 = .ok (.goto (-29), 3) ∧ ((35 : Nat) : Int) + (-29) = ((6 : Nat) : Int) := ⟨by decide +kernel, by decide⟩
theorem dX0_loudest_38 : decode cX0_loudest 38 = .ok (.iload_n 1, 1) ∧ 38 + 1 = 39 := ⟨by decide +kernel, rfl⟩
theorem dX0_loudest_39 : decode cX0_loudest 39 = .ok (.ireturn, 1) := by decide +kernel
def B_X0_loudest_32 (k6 : Hp → Int32 → Int32 → Int32 → Option (Int32 × Hp)) (fu : Nat) (o : Nat) (S : Hp) (x1 : Int32) (x2 : Int32) (x3 : Int32) : Option (Int32 × Hp) :=
  k6 S x1 x2 (x3 + (1 : Int32))
set_option maxRecDepth 100000 in
set_option maxHeartbeats 4000000 in
theorem w_X0_loudest_32 {E : Cx} {l : Launch} {res : Int32 × Hp} {ad : Nat → Nat} {k6 : Hp → Int32 → Int32 → Int32 → Option (Int32 × Hp)} {fu : Nat} {o : Nat} {S : Hp} {x1 : Int32} {x2 : Int32} {x3 : Int32} (K : Kx E cX0_loudest RX0 (rmd 5 0 0)) (X : Bx E l yX0_loudest 5 (some .int) 0 0 ad (QI res)) (hk6 : ∀ (S : Hp) (x1 : Int32) (x2 : Int32) (x3 : Int32), k6 S x1 x2 x3 = some res → J E 0 0 6 [(0, vR (some o)), (1, vI x1), (2, vI x2), (3, vI x3)] [] S ad) (h : B_X0_loudest_32 k6 fu o S x1 x2 x3 = some res) : J E 0 0 32 [(0, vR (some o)), (1, vI x1), (2, vI x2), (3, vI x3)] [] S ad := by
  refine j_iinc (q := 3) (v := (x3 + (1 : Int32))) (lv' := [(3, vI (x3 + (1 : Int32))), (0, vR (some o)), (1, vI x1), (2, vI x2)]) K dX0_loudest_32 rfl rfl X.2.2.1 (by decide) rfl ?_
  refine j_goto K dX0_loudest_35 ?_
  exact j_sub [1, 2, 3, 0] rfl (hk6 _ _ _ _ h)
def L_X0_loudest_6 (k6 : Hp → Int32 → Int32 → Int32 → Option (Int32 × Hp)) (fu : Nat) (o : Nat) (S : Hp) (x1 : Int32) (x2 : Int32) (x3 : Int32) : Option (Int32 × Hp) :=
  (gI S (some o) 0 0).bind fun v8 =>
  if v8 ≤ x3 then
    some (x1, S)
  else
    (ob S 0 (some o)).bind fun _ =>
    b2 (F_X0_beats fu S o x3) fun v16 S16 =>
    if v16 ≤ x2 then
      B_X0_loudest_32 k6 fu o S16 x1 x2 x3
    else
      B_X0_loudest_32 k6 fu o S16 x3 v16 x3
set_option maxRecDepth 100000 in
set_option maxHeartbeats 4000000 in
theorem wl_X0_loudest_6 {E : Cx} {l : Launch} {res : Int32 × Hp} {ad : Nat → Nat} {k6 : Hp → Int32 → Int32 → Int32 → Option (Int32 × Hp)} {fu : Nat} {o : Nat} {S : Hp} {x1 : Int32} {x2 : Int32} {x3 : Int32} (K : Kx E cX0_loudest RX0 (rmd 5 0 0)) (X : Bx E l yX0_loudest 5 (some .int) 0 0 ad (QI res)) (hk6 : ∀ (S : Hp) (x1 : Int32) (x2 : Int32) (x3 : Int32), k6 S x1 x2 x3 = some res → J E 0 0 6 [(0, vR (some o)), (1, vI x1), (2, vI x2), (3, vI x3)] [] S ad) (h : L_X0_loudest_6 k6 fu o S x1 x2 x3 = some res) : J E 0 0 6 [(0, vR (some o)), (1, vI x1), (2, vI x2), (3, vI x3)] [] S ad := by
  refine j_iload_n K dX0_loudest_6 rfl 3 rfl ?_
  refine j_aload_n K dX0_loudest_7 rfl 0 rfl ?_
  obtain ⟨v8, e8, h⟩ := bd h
  refine fgX0_9 K dX0_loudest_8 e8 ?_
  refine j_icmp_ge K dX0_loudest_11 (fun c11 => ?_) (fun c11 => ?_)
  · replace h := it c11 h
    refine j_iload_n K dX0_loudest_38 rfl 1 rfl ?_
    exact j_iret K X dX0_loudest_39 h
  · replace h := ie c11 h
    refine j_aload_n K dX0_loudest_14 rfl 0 rfl ?_
    refine j_iload_n K dX0_loudest_15 rfl 3 rfl ?_
    obtain ⟨w16, ew16, h⟩ := bd h
    have ho16 := obS ew16
    obtain ⟨v16, S16, e16, h⟩ := bd2 h
    refine j_cI (st := []) K (r_V (vs := [vI x3]) (n := 1) (o := o) K (c_X0_beats e16) ho16 (by decide) rfl dX0_loudest_16 z557 z518 z519 z2 z520 ⟨zd_X0_beats, rfl, rfl, rfl, ⟨Nat.le_of_ble_eq_true rfl, Nat.le_of_ble_eq_true rfl⟩, Nat.le_of_ble_eq_true rfl, Nat.le_of_ble_eq_true rfl, Nat.le_of_ble_eq_true rfl⟩) rfl ?_
    refine j_istore (lv' := [(4, vI v16), (0, vR (some o)), (1, vI x1), (2, vI x2), (3, vI x3)]) K dX0_loudest_19 X.2.2.1 (by decide) rfl ?_
    refine j_iload K dX0_loudest_21 0 rfl ?_
    refine j_iload_n K dX0_loudest_23 rfl 3 rfl ?_
    refine j_icmp_le K dX0_loudest_24 (fun c24 => ?_) (fun c24 => ?_)
    · replace h := it c24 h
      exact j_sub [1, 2, 3, 4] rfl (w_X0_loudest_32 K X hk6 h)
    · replace h := ie c24 h
      refine j_iload K dX0_loudest_27 0 rfl ?_
      refine j_istore_n (lv' := [(2, vI v16), (4, vI v16), (0, vR (some o)), (1, vI x1), (3, vI x3)]) K dX0_loudest_29 rfl X.2.2.1 (by decide) rfl ?_
      refine j_iload_n K dX0_loudest_30 rfl 4 rfl ?_
      refine j_istore_n (lv' := [(1, vI x3), (2, vI v16), (4, vI v16), (0, vR (some o)), (3, vI x3)]) K dX0_loudest_31 rfl X.2.2.1 (by decide) rfl ?_
      exact j_sub [3, 0, 1, 4] rfl (w_X0_loudest_32 K X hk6 h)
def B_X0_loudest_6 (fu : Nat) (o : Nat) : Nat → Hp → Int32 → Int32 → Int32 → Option (Int32 × Hp)
  | 0 => fun _ _ _ _ => none
  | n + 1 => L_X0_loudest_6 (B_X0_loudest_6 fu o n) fu o
theorem w_X0_loudest_6 {E : Cx} {l : Launch} {res : Int32 × Hp} {ad : Nat → Nat} {fu : Nat} {o : Nat} (K : Kx E cX0_loudest RX0 (rmd 5 0 0)) (X : Bx E l yX0_loudest 5 (some .int) 0 0 ad (QI res)) : ∀ (n : Nat) (S : Hp) (x1 : Int32) (x2 : Int32) (x3 : Int32), B_X0_loudest_6 fu o n S x1 x2 x3 = some res → J E 0 0 6 [(0, vR (some o)), (1, vI x1), (2, vI x2), (3, vI x3)] [] S ad := by
  intro n
  induction n with
  | zero =>
    intro S x1 x2 x3 h
    cases h
  | succ n ih =>
    intro S x1 x2 x3 h
    exact wl_X0_loudest_6 K X ih h
def F_X0_loudest (fu : Nat) (S : Hp) (o : Nat) : Option (Int32 × Hp) :=
  B_X0_loudest_6 fu o fu S (-1 : Int32) (0 : Int32) (0 : Int32)
set_option maxRecDepth 100000 in
set_option maxHeartbeats 4000000 in
theorem w_X0_loudest {E : Cx} {l : Launch} {res : Int32 × Hp} {ad : Nat → Nat} {fu : Nat} {S : Hp} {o : Nat} (K : Kx E cX0_loudest RX0 (rmd 5 0 0)) (X : Bx E l yX0_loudest 5 (some .int) 0 0 ad (QI res)) (h : F_X0_loudest fu S o = some res) : J E 0 0 0 [(0, vR (some o))] [] S ad := by
  refine j_iconst (v := (-1 : Int32)) K dX0_loudest_0 (by decide) ?_
  refine j_istore_n (lv' := [(1, vI (-1 : Int32)), (0, vR (some o))]) K dX0_loudest_1 rfl X.2.2.1 (by decide) rfl ?_
  refine j_iconst (v := (0 : Int32)) K dX0_loudest_2 (by decide) ?_
  refine j_istore_n (lv' := [(2, vI (0 : Int32)), (1, vI (-1 : Int32)), (0, vR (some o))]) K dX0_loudest_3 rfl X.2.2.1 (by decide) rfl ?_
  refine j_iconst (v := (0 : Int32)) K dX0_loudest_4 (by decide) ?_
  refine j_istore_n (lv' := [(3, vI (0 : Int32)), (2, vI (0 : Int32)), (1, vI (-1 : Int32)), (0, vR (some o))]) K dX0_loudest_5 rfl X.2.2.1 (by decide) rfl ?_
  exact j_sub [3, 2, 1, 0] rfl (w_X0_loudest_6 K X _ _ _ _ _ h)
theorem c_X0_loudest {l : Launch} {fu : Nat} {S : Hp} {o : Nat} {res : Int32 × Hp} (h : F_X0_loudest fu S o = some res) : Ct l yX0_loudest cX0_loudest 5 (some .int) (rmd 5 0 0) 0 0 [vR (some o)] S (QI res) :=
  z_entry (by decide +kernel) (Nat.le_of_ble_eq_true rfl) (fun E ad K X => w_X0_loudest K X h)

theorem dX0_silent_0 : decode cX0_silent 0 = .ok (.iconst 0, 1) ∧ 0 + 1 = 1 := ⟨by decide +kernel, rfl⟩
theorem dX0_silent_1 : decode cX0_silent 1 = .ok (.istore_n 1, 1) ∧ 1 + 1 = 2 := ⟨by decide +kernel, rfl⟩
theorem dX0_silent_2 : decode cX0_silent 2 = .ok (.iconst 0, 1) ∧ 2 + 1 = 3 := ⟨by decide +kernel, rfl⟩
theorem dX0_silent_3 : decode cX0_silent 3 = .ok (.istore_n 2, 1) ∧ 3 + 1 = 4 := ⟨by decide +kernel, rfl⟩
theorem dX0_silent_4 : decode cX0_silent 4 = .ok (.iload_n 2, 1) ∧ 4 + 1 = 5 := ⟨by decide +kernel, rfl⟩
theorem dX0_silent_5 : decode cX0_silent 5 = .ok (.aload_n 0, 1) ∧ 5 + 1 = 6 := ⟨by decide +kernel, rfl⟩
theorem dX0_silent_6 : decode cX0_silent 6 = .ok (.getfield 9, 3) ∧ 6 + 3 = 9 := ⟨by decide +kernel, rfl⟩
theorem dX0_silent_9 : decode cX0_silent 9 = .ok (.if_icmp .ge 27, 3) ∧ 9 + 3 = 12 ∧ ((9 : Nat) : Int) + (27) = ((36 : Nat) : Int) := ⟨by decide +kernel, rfl, by decide⟩
theorem dX0_silent_12 : decode cX0_silent 12 = .ok (.iload_n 1, 1) ∧ 12 + 1 = 13 := ⟨by decide +kernel, rfl⟩
theorem dX0_silent_13 : decode cX0_silent 13 = .ok (.aload_n 0, 1) ∧ 13 + 1 = 14 := ⟨by decide +kernel, rfl⟩
theorem dX0_silent_14 : decode cX0_silent 14 = .ok (.iload_n 2, 1) ∧ 14 + 1 = 15 := ⟨by decide +kernel, rfl⟩
theorem dX0_silent_15 : decode cX0_silent 15 = .ok (.invokevirtual 118, 3) := by decide +kernel
theorem dX0_silent_18 : decode cX0_silent 18 = .ok (.ifCond .ne 9, 3) ∧ 18 + 3 = 21 ∧ ((18 : Nat) : Int) + (9) = ((27 : Nat) : Int) := ⟨by decide +kernel, rfl, by decide⟩
theorem dX0_silent_21 : decode cX0_silent 21 = .ok (.iconst 1, 1) ∧ 21 + 1 = 22 := ⟨by decide +kernel, rfl⟩
theorem dX0_silent_22 : decode cX0_silent 22 = .ok (.iload_n 2, 1) ∧ 22 + 1 = 23 := ⟨by decide +kernel, rfl⟩
theorem dX0_silent_23 : decode cX0_silent 23 = .ok (.ishl, 1) ∧ 23 + 1 = 24 := ⟨by decide +kernel, rfl⟩
theorem dX0_silent_24 : decode cX0_silent 24 = .ok (.goto 4, 3) ∧ ((24 : Nat) : Int) + (4) = ((28 : Nat) : Int) := ⟨by decide +kernel, by decide⟩
theorem dX0_silent_27 : decode cX0_silent 27 = .ok (.iconst 0, 1) ∧ 27 + 1 = 28 := ⟨by decide +kernel, rfl⟩
theorem dX0_silent_28 : decode cX0_silent 28 = .ok (.ior, 1) ∧ 28 + 1 = 29 := ⟨by decide +kernel, rfl⟩
theorem dX0_silent_29 : decode cX0_silent 29 = .ok (.istore_n 1, 1) ∧ 29 + 1 = 30 := ⟨by decide +kernel, rfl⟩
theorem dX0_silent_30 : decode cX0_silent 30 = .ok (.iinc 2 1, 3) ∧ 30 + 3 = 33 := ⟨by decide +kernel, rfl⟩
theorem dX0_silent_33 : decode cX0_silent 33 = .ok (.goto (-29), 3) ∧ ((33 : Nat) : Int) + (-29) = ((4 : Nat) : Int) := ⟨by decide +kernel, by decide⟩
theorem dX0_silent_36 : decode cX0_silent 36 = .ok (.iload_n 1, 1) ∧ 36 + 1 = 37 := ⟨by decide +kernel, rfl⟩
theorem dX0_silent_37 : decode cX0_silent 37 = .ok (.ireturn, 1) := by decide +kernel
def B_X0_silent_28 (k4 : Hp → Int32 → Int32 → Option (Int32 × Hp)) (fu : Nat) (o : Nat) (S : Hp) (x2 : Int32) (s0 : Int32) (s1 : Int32) : Option (Int32 × Hp) :=
  k4 S (s1 ||| s0) (x2 + (1 : Int32))
set_option maxRecDepth 100000 in
set_option maxHeartbeats 4000000 in
theorem w_X0_silent_28 {E : Cx} {l : Launch} {res : Int32 × Hp} {ad : Nat → Nat} {k4 : Hp → Int32 → Int32 → Option (Int32 × Hp)} {fu : Nat} {o : Nat} {S : Hp} {x2 : Int32} {s0 : Int32} {s1 : Int32} (K : Kx E cX0_silent RX0 (rmd 5 0 0)) (X : Bx E l yX0_silent 3 (some .int) 0 0 ad (QI res)) (hk4 : ∀ (S : Hp) (x1 : Int32) (x2 : Int32), k4 S x1 x2 = some res → J E 0 0 4 [(0, vR (some o)), (1, vI x1), (2, vI x2)] [] S ad) (h : B_X0_silent_28 k4 fu o S x2 s0 s1 = some res) : J E 0 0 28 [(0, vR (some o)), (2, vI x2)] [vI s0, vI s1] S ad := by
  refine j_ior K dX0_silent_28 ?_
  refine j_istore_n (lv' := [(1, vI (s1 ||| s0)), (0, vR (some o)), (2, vI x2)]) K dX0_silent_29 rfl X.2.2.1 (by decide) rfl ?_
  refine j_iinc (q := 2) (v := (x2 + (1 : Int32))) (lv' := [(2, vI (x2 + (1 : Int32))), (1, vI (s1 ||| s0)), (0, vR (some o))]) K dX0_silent_30 rfl rfl X.2.2.1 (by decide) rfl ?_
  refine j_goto K dX0_silent_33 ?_
  exact j_sub [2, 1, 0] rfl (hk4 _ _ _ h)
def L_X0_silent_4 (k4 : Hp → Int32 → Int32 → Option (Int32 × Hp)) (fu : Nat) (o : Nat) (S : Hp) (x1 : Int32) (x2 : Int32) : Option (Int32 × Hp) :=
  (gI S (some o) 0 0).bind fun v6 =>
  if v6 ≤ x2 then
    some (x1, S)
  else
    (ob S 0 (some o)).bind fun _ =>
    b2 (F_X0_beats fu S o x2) fun v15 S15 =>
    if v15 = 0 then
      B_X0_silent_28 k4 fu o S15 x2 ((1 : Int32) <<< (x2 &&& 31)) x1
    else
      B_X0_silent_28 k4 fu o S15 x2 (0 : Int32) x1
set_option maxRecDepth 100000 in
set_option maxHeartbeats 4000000 in
theorem wl_X0_silent_4 {E : Cx} {l : Launch} {res : Int32 × Hp} {ad : Nat → Nat} {k4 : Hp → Int32 → Int32 → Option (Int32 × Hp)} {fu : Nat} {o : Nat} {S : Hp} {x1 : Int32} {x2 : Int32} (K : Kx E cX0_silent RX0 (rmd 5 0 0)) (X : Bx E l yX0_silent 3 (some .int) 0 0 ad (QI res)) (hk4 : ∀ (S : Hp) (x1 : Int32) (x2 : Int32), k4 S x1 x2 = some res → J E 0 0 4 [(0, vR (some o)), (1, vI x1), (2, vI x2)] [] S ad) (h : L_X0_silent_4 k4 fu o S x1 x2 = some res) : J E 0 0 4 [(0, vR (some o)), (1, vI x1), (2, vI x2)] [] S ad := by
  refine j_iload_n K dX0_silent_4 rfl 2 rfl ?_
  refine j_aload_n K dX0_silent_5 rfl 0 rfl ?_
  obtain ⟨v6, e6, h⟩ := bd h
  refine fgX0_9 K dX0_silent_6 e6 ?_
  refine j_icmp_ge K dX0_silent_9 (fun c9 => ?_) (fun c9 => ?_)
  · replace h := it c9 h
    refine j_iload_n K dX0_silent_36 rfl 1 rfl ?_
    exact j_iret K X dX0_silent_37 h
  · replace h := ie c9 h
    refine j_iload_n K dX0_silent_12 rfl 1 rfl ?_
    refine j_aload_n K dX0_silent_13 rfl 0 rfl ?_
    refine j_iload_n K dX0_silent_14 rfl 2 rfl ?_
    obtain ⟨w15, ew15, h⟩ := bd h
    have ho15 := obS ew15
    obtain ⟨v15, S15, e15, h⟩ := bd2 h
    refine j_cI (st := [vI x1]) K (r_V (vs := [vI x2]) (n := 1) (o := o) K (c_X0_beats e15) ho15 (by decide) rfl dX0_silent_15 z557 z518 z519 z2 z520 ⟨zd_X0_beats, rfl, rfl, rfl, ⟨Nat.le_of_ble_eq_true rfl, Nat.le_of_ble_eq_true rfl⟩, Nat.le_of_ble_eq_true rfl, Nat.le_of_ble_eq_true rfl, Nat.le_of_ble_eq_true rfl⟩) rfl ?_
    refine j_if_ne K dX0_silent_18 (fun c18 => ?_) (fun c18 => ?_)
    · replace h := ie c18 h
      refine j_iconst (v := (0 : Int32)) K dX0_silent_27 (by decide) ?_
      exact j_sub [0, 2] rfl (w_X0_silent_28 K X hk4 h)
    · replace h := it c18 h
      refine j_iconst (v := (1 : Int32)) K dX0_silent_21 (by decide) ?_
      refine j_iload_n K dX0_silent_22 rfl 2 rfl ?_
      refine j_ishl K dX0_silent_23 ?_
      refine j_goto K dX0_silent_24 ?_
      exact j_sub [0, 2] rfl (w_X0_silent_28 K X hk4 h)
def B_X0_silent_4 (fu : Nat) (o : Nat) : Nat → Hp → Int32 → Int32 → Option (Int32 × Hp)
  | 0 => fun _ _ _ => none
  | n + 1 => L_X0_silent_4 (B_X0_silent_4 fu o n) fu o
theorem w_X0_silent_4 {E : Cx} {l : Launch} {res : Int32 × Hp} {ad : Nat → Nat} {fu : Nat} {o : Nat} (K : Kx E cX0_silent RX0 (rmd 5 0 0)) (X : Bx E l yX0_silent 3 (some .int) 0 0 ad (QI res)) : ∀ (n : Nat) (S : Hp) (x1 : Int32) (x2 : Int32), B_X0_silent_4 fu o n S x1 x2 = some res → J E 0 0 4 [(0, vR (some o)), (1, vI x1), (2, vI x2)] [] S ad := by
  intro n
  induction n with
  | zero =>
    intro S x1 x2 h
    cases h
  | succ n ih =>
    intro S x1 x2 h
    exact wl_X0_silent_4 K X ih h
def F_X0_silent (fu : Nat) (S : Hp) (o : Nat) : Option (Int32 × Hp) :=
  B_X0_silent_4 fu o fu S (0 : Int32) (0 : Int32)
set_option maxRecDepth 100000 in
set_option maxHeartbeats 4000000 in
theorem w_X0_silent {E : Cx} {l : Launch} {res : Int32 × Hp} {ad : Nat → Nat} {fu : Nat} {S : Hp} {o : Nat} (K : Kx E cX0_silent RX0 (rmd 5 0 0)) (X : Bx E l yX0_silent 3 (some .int) 0 0 ad (QI res)) (h : F_X0_silent fu S o = some res) : J E 0 0 0 [(0, vR (some o))] [] S ad := by
  refine j_iconst (v := (0 : Int32)) K dX0_silent_0 (by decide) ?_
  refine j_istore_n (lv' := [(1, vI (0 : Int32)), (0, vR (some o))]) K dX0_silent_1 rfl X.2.2.1 (by decide) rfl ?_
  refine j_iconst (v := (0 : Int32)) K dX0_silent_2 (by decide) ?_
  refine j_istore_n (lv' := [(2, vI (0 : Int32)), (1, vI (0 : Int32)), (0, vR (some o))]) K dX0_silent_3 rfl X.2.2.1 (by decide) rfl ?_
  exact j_sub [2, 1, 0] rfl (w_X0_silent_4 K X _ _ _ _ h)
theorem c_X0_silent {l : Launch} {fu : Nat} {S : Hp} {o : Nat} {res : Int32 × Hp} (h : F_X0_silent fu S o = some res) : Ct l yX0_silent cX0_silent 3 (some .int) (rmd 5 0 0) 0 0 [vR (some o)] S (QI res) :=
  z_entry (by decide +kernel) (Nat.le_of_ble_eq_true rfl) (fun E ad K X => w_X0_silent K X h)

theorem dX0_look_0 : decode cX0_look 0 = .ok (.iconst 0, 1) ∧ 0 + 1 = 1 := ⟨by decide +kernel, rfl⟩
theorem dX0_look_1 : decode cX0_look 1 = .ok (.istore_n 2, 1) ∧ 1 + 1 = 2 := ⟨by decide +kernel, rfl⟩
theorem dX0_look_2 : decode cX0_look 2 = .ok (.iload_n 2, 1) ∧ 2 + 1 = 3 := ⟨by decide +kernel, rfl⟩
theorem dX0_look_3 : decode cX0_look 3 = .ok (.aload_n 0, 1) ∧ 3 + 1 = 4 := ⟨by decide +kernel, rfl⟩
theorem dX0_look_4 : decode cX0_look 4 = .ok (.getfield 9, 3) ∧ 4 + 3 = 7 := ⟨by decide +kernel, rfl⟩
theorem dX0_look_7 : decode cX0_look 7 = .ok (.if_icmp .ge 109, 3) ∧ 7 + 3 = 10 ∧ ((7 : Nat) : Int) + (109) = ((116 : Nat) : Int) := ⟨by decide +kernel, rfl, by decide⟩
theorem dX0_look_10 : decode cX0_look 10 = .ok (.iconst 0, 1) ∧ 10 + 1 = 11 := ⟨by decide +kernel, rfl⟩
theorem dX0_look_11 : decode cX0_look 11 = .ok (.istore_n 3, 1) ∧ 11 + 1 = 12 := ⟨by decide +kernel, rfl⟩
theorem dX0_look_12 : decode cX0_look 12 = .ok (.iconst (-1), 1) ∧ 12 + 1 = 13 := ⟨by decide +kernel, rfl⟩
theorem dX0_look_13 : decode cX0_look 13 = .ok (.istore 4, 2) ∧ 13 + 2 = 15 := ⟨by decide +kernel, rfl⟩
theorem dX0_look_15 : decode cX0_look 15 = .ok (.iconst 0, 1) ∧ 15 + 1 = 16 := ⟨by decide +kernel, rfl⟩
theorem dX0_look_16 : decode cX0_look 16 = .ok (.istore 5, 2) ∧ 16 + 2 = 18 := ⟨by decide +kernel, rfl⟩
theorem dX0_look_18 : decode cX0_look 18 = .ok (.iload 5, 2) ∧ 18 + 2 = 20 := ⟨by decide +kernel, rfl⟩
theorem dX0_look_20 : decode cX0_look 20 = .ok (.aload_n 0, 1) ∧ 20 + 1 = 21 := ⟨by decide +kernel, rfl⟩
theorem dX0_look_21 : decode cX0_look 21 = .ok (.getfield 28, 3) ∧ 21 + 3 = 24 := ⟨by decide +kernel, rfl⟩
theorem dX0_look_24 : decode cX0_look 24 = .ok (.if_icmp .ge 53, 3) ∧ 24 + 3 = 27 ∧ ((24 : Nat) : Int) + (53) = ((77 : Nat) : Int) := ⟨by decide +kernel, rfl, by decide⟩
theorem dX0_look_27 : decode cX0_look 27 = .ok (.iload_n 2, 1) ∧ 27 + 1 = 28 := ⟨by decide +kernel, rfl⟩
theorem dX0_look_28 : decode cX0_look 28 = .ok (.iload_n 1, 1) ∧ 28 + 1 = 29 := ⟨by decide +kernel, rfl⟩
theorem dX0_look_29 : decode cX0_look 29 = .ok (.if_icmp .eq 42, 3) ∧ 29 + 3 = 32 ∧ ((29 : Nat) : Int) + (42) = ((71 : Nat) : Int) := ⟨by decide +kernel, rfl, by decide⟩
theorem dX0_look_32 : decode cX0_look 32 = .ok (.aload_n 0, 1) ∧ 32 + 1 = 33 := ⟨by decide +kernel, rfl⟩
theorem dX0_look_33 : decode cX0_look 33 = .ok (.getfield 31, 3) ∧ 33 + 3 = 36 := ⟨by decide +kernel, rfl⟩
theorem dX0_look_36 : decode cX0_look 36 = .ok (.iload 5, 2) ∧ 36 + 2 = 38 := ⟨by decide +kernel, rfl⟩
theorem dX0_look_38 : decode cX0_look 38 = .ok (.invokestatic 61, 3) := by decide +kernel
theorem dX0_look_41 : decode cX0_look 41 = .ok (.iload_n 1, 1) ∧ 41 + 1 = 42 := ⟨by decide +kernel, rfl⟩
theorem dX0_look_42 : decode cX0_look 42 = .ok (.invokestatic 83, 3) := by decide +kernel
theorem dX0_look_45 : decode cX0_look 45 = .ok (.ifCond .eq 26, 3) ∧ 45 + 3 = 48 ∧ ((45 : Nat) : Int) + (26) = ((71 : Nat) : Int) := ⟨by decide +kernel, rfl, by decide⟩
theorem dX0_look_48 : decode cX0_look 48 = .ok (.aload_n 0, 1) ∧ 48 + 1 = 49 := ⟨by decide +kernel, rfl⟩
theorem dX0_look_49 : decode cX0_look 49 = .ok (.getfield 37, 3) ∧ 49 + 3 = 52 := ⟨by decide +kernel, rfl⟩
theorem dX0_look_52 : decode cX0_look 52 = .ok (.iload 5, 2) ∧ 52 + 2 = 54 := ⟨by decide +kernel, rfl⟩
theorem dX0_look_54 : decode cX0_look 54 = .ok (.invokestatic 61, 3) := by decide +kernel
theorem dX0_look_57 : decode cX0_look 57 = .ok (.iload_n 2, 1) ∧ 57 + 1 = 58 := ⟨by decide +kernel, rfl⟩
theorem dX0_look_58 : decode cX0_look 58 = .ok (.invokestatic 83, 3) := by decide +kernel
theorem dX0_look_61 : decode cX0_look 61 = .ok (.ifCond .eq 10, 3) ∧ 61 + 3 = 64 ∧ ((61 : Nat) : Int) + (10) = ((71 : Nat) : Int) := ⟨by decide +kernel, rfl, by decide⟩
theorem dX0_look_64 : decode cX0_look 64 = .ok (.iinc 3 1, 3) ∧ 64 + 3 = 67 := ⟨by decide +kernel, rfl⟩
theorem dX0_look_67 : decode cX0_look 67 = .ok (.iload 5, 2) ∧ 67 + 2 = 69 := ⟨by decide +kernel, rfl⟩
theorem dX0_look_69 : decode cX0_look 69 = .ok (.istore 4, 2) ∧ 69 + 2 = 71 := ⟨by decide +kernel, rfl⟩
theorem dX0_look_71 : decode cX0_look 71 = .ok (.iinc 5 1, 3) ∧ 71 + 3 = 74 := ⟨by decide +kernel, rfl⟩
theorem dX0_look_74 : decode cX0_look 74 = .ok (.goto (-56), 3) ∧ ((74 : Nat) : Int) + (-56) = ((18 : Nat) : Int) := ⟨by decide +kernel, by decide⟩
theorem dX0_look_77 : decode cX0_look 77 = .ok (.aload_n 0, 1) ∧ 77 + 1 = 78 := ⟨by decide +kernel, rfl⟩
theorem dX0_look_78 : decode cX0_look 78 = .ok (.getfield 55, 3) ∧ 78 + 3 = 81 := ⟨by decide +kernel, rfl⟩
theorem dX0_look_81 : decode cX0_look 81 = .ok (.iload_n 2, 1) ∧ 81 + 1 = 82 := ⟨by decide +kernel, rfl⟩
theorem dX0_look_82 : decode cX0_look 82 = .ok (.iload_n 3, 1) ∧ 82 + 1 = 83 := ⟨by decide +kernel, rfl⟩
theorem dX0_look_83 : decode cX0_look 83 = .ok (.invokestatic 65, 3) := by decide +kernel
theorem dX0_look_86 : decode cX0_look 86 = .ok (.aload_n 0, 1) ∧ 86 + 1 = 87 := ⟨by decide +kernel, rfl⟩
theorem dX0_look_87 : decode cX0_look 87 = .ok (.getfield 58, 3) ∧ 87 + 3 = 90 := ⟨by decide +kernel, rfl⟩
theorem dX0_look_90 : decode cX0_look 90 = .ok (.iload_n 2, 1) ∧ 90 + 1 = 91 := ⟨by decide +kernel, rfl⟩
theorem dX0_look_91 : decode cX0_look 91 = .ok (.iload_n 3, 1) ∧ 91 + 1 = 92 := ⟨by decide +kernel, rfl⟩
theorem dX0_look_92 : decode cX0_look 92 = .ok (.ifCond .ne 7, 3) ∧ 92 + 3 = 95 ∧ ((92 : Nat) : Int) + (7) = ((99 : Nat) : Int) := ⟨by decide +kernel, rfl, by decide⟩
theorem dX0_look_95 : decode cX0_look 95 = .ok (.iconst 0, 1) ∧ 95 + 1 = 96 := ⟨by decide +kernel, rfl⟩
theorem dX0_look_96 : decode cX0_look 96 = .ok (.goto 11, 3) ∧ ((96 : Nat) : Int) + (11) = ((107 : Nat) : Int) := ⟨by decide +kernel, by decide⟩
theorem dX0_look_99 : decode cX0_look 99 = .ok (.aload_n 0, 1) ∧ 99 + 1 = 100 := ⟨by decide +kernel, rfl⟩
theorem dX0_look_100 : decode cX0_look 100 = .ok (.iconst 1, 1) ∧ 100 + 1 = 101 := ⟨by decide +kernel, rfl⟩
theorem dX0_look_101 : decode cX0_look 101 = .ok (.iload_n 2, 1) ∧ 101 + 1 = 102 := ⟨by decide +kernel, rfl⟩
theorem dX0_look_102 : decode cX0_look 102 = .ok (.iload 4, 2) ∧ 102 + 2 = 104 := ⟨by decide +kernel, rfl⟩
theorem dX0_look_104 : decode cX0_look 104 = .ok (.invokevirtual 103, 3) := by decide +kernel
theorem dX0_look_107 : decode cX0_look 107 = .ok (.invokestatic 65, 3) := by decide +kernel
theorem dX0_look_110 : decode cX0_look 110 = .ok (.iinc 2 1, 3) ∧ 110 + 3 = 113 := ⟨by decide +kernel, rfl⟩
theorem dX0_look_113 : decode cX0_look 113 = .ok (.goto (-111), 3) ∧ ((113 : Nat) : Int) + (-111) = ((2 : Nat) : Int) := ⟨by decide +kernel, by decide⟩
theorem dX0_look_116 : decode cX0_look 116 = .ok (.return_, 1) := by decide +kernel
def B_X0_look_71 (k2 : Hp → Int32 → Option (Hp)) (k18 : Hp → Int32 → Int32 → Int32 → Option (Hp)) (fu : Nat) (o : Nat) (S : Hp) (x1 : Int32) (x2 : Int32) (x3 : Int32) (x4 : Int32) (x5 : Int32) : Option (Hp) :=
  k18 S x3 x4 (x5 + (1 : Int32))
set_option maxRecDepth 100000 in
set_option maxHeartbeats 4000000 in
theorem w_X0_look_71 {E : Cx} {l : Launch} {res : Hp} {ad : Nat → Nat} {k2 : Hp → Int32 → Option (Hp)} {k18 : Hp → Int32 → Int32 → Int32 → Option (Hp)} {fu : Nat} {o : Nat} {S : Hp} {x1 : Int32} {x2 : Int32} {x3 : Int32} {x4 : Int32} {x5 : Int32} (K : Kx E cX0_look RX0 (rmd 3 0 0)) (X : Bx E l yX0_look 6 none 0 0 ad (QV res)) (hk2 : ∀ (S : Hp) (x2 : Int32), k2 S x2 = some res → J E 0 0 2 [(0, vR (some o)), (1, vI x1), (2, vI x2)] [] S ad) (hk18 : ∀ (S : Hp) (x3 : Int32) (x4 : Int32) (x5 : Int32), k18 S x3 x4 x5 = some res → J E 0 0 18 [(0, vR (some o)), (1, vI x1), (2, vI x2), (3, vI x3), (4, vI x4), (5, vI x5)] [] S ad) (h : B_X0_look_71 k2 k18 fu o S x1 x2 x3 x4 x5 = some res) : J E 0 0 71 [(0, vR (some o)), (1, vI x1), (2, vI x2), (3, vI x3), (4, vI x4), (5, vI x5)] [] S ad := by
  refine j_iinc (q := 5) (v := (x5 + (1 : Int32))) (lv' := [(5, vI (x5 + (1 : Int32))), (0, vR (some o)), (1, vI x1), (2, vI x2), (3, vI x3), (4, vI x4)]) K dX0_look_71 rfl rfl X.2.2.1 (by decide) rfl ?_
  refine j_goto K dX0_look_74 ?_
  exact j_sub [1, 2, 3, 4, 5, 0] rfl (hk18 _ _ _ _ h)
def B_X0_look_107 (k2 : Hp → Int32 → Option (Hp)) (fu : Nat) (o : Nat) (S : Hp) (x1 : Int32) (x2 : Int32) (s0 : Int32) (s1 : Int32) (s2 : Option Nat) : Option (Hp) :=
  (F_X7_store S s2 s1 s0).bind fun S107 =>
  k2 S107 (x2 + (1 : Int32))
set_option maxRecDepth 100000 in
set_option maxHeartbeats 4000000 in
theorem w_X0_look_107 {E : Cx} {l : Launch} {res : Hp} {ad : Nat → Nat} {k2 : Hp → Int32 → Option (Hp)} {fu : Nat} {o : Nat} {S : Hp} {x1 : Int32} {x2 : Int32} {s0 : Int32} {s1 : Int32} {s2 : Option Nat} (K : Kx E cX0_look RX0 (rmd 3 0 0)) (X : Bx E l yX0_look 6 none 0 0 ad (QV res)) (hk2 : ∀ (S : Hp) (x2 : Int32), k2 S x2 = some res → J E 0 0 2 [(0, vR (some o)), (1, vI x1), (2, vI x2)] [] S ad) (h : B_X0_look_107 k2 fu o S x1 x2 s0 s1 s2 = some res) : J E 0 0 107 [(0, vR (some o)), (1, vI x1), (2, vI x2)] [vI s0, vI s1, vR s2] S ad := by
  obtain ⟨S107, e107, h⟩ := bd h
  refine j_cV (st := []) K (r_SN (vs := [vR s2, vI s1, vI s0]) (n := 3) (host := RX7) K (c_X7_store e107) dX0_look_107 (List.mem_of_getElem? (i := 10) rfl) z216 z1 z217 ⟨zd_X7_store, rfl, rfl, rfl, ⟨Nat.le_of_ble_eq_true rfl, Nat.le_of_ble_eq_true rfl⟩, Nat.le_of_ble_eq_true rfl, Nat.le_of_ble_eq_true rfl, Nat.le_of_ble_eq_true rfl⟩) rfl ?_
  refine j_iinc (q := 2) (v := (x2 + (1 : Int32))) (lv' := [(2, vI (x2 + (1 : Int32))), (0, vR (some o)), (1, vI x1)]) K dX0_look_110 rfl rfl X.2.2.1 (by decide) rfl ?_
  refine j_goto K dX0_look_113 ?_
  exact j_sub [1, 2, 0] rfl (hk2 _ _ h)
def L_X0_look_18 (k2 : Hp → Int32 → Option (Hp)) (k18 : Hp → Int32 → Int32 → Int32 → Option (Hp)) (fu : Nat) (o : Nat) (x1 : Int32) (x2 : Int32) (S : Hp) (x3 : Int32) (x4 : Int32) (x5 : Int32) : Option (Hp) :=
  (gI S (some o) 0 5).bind fun v21 =>
  if v21 ≤ x5 then
    (gR S (some o) 0 13).bind fun v78 =>
    (F_X7_store S v78 x2 x3).bind fun S83 =>
    (gR S83 (some o) 0 14).bind fun v87 =>
    if x3 = 0 then
      B_X0_look_107 k2 fu o S83 x1 x2 (0 : Int32) x2 v87
    else
      (ob S83 0 (some o)).bind fun _ =>
      b2 (F_X0_says fu S83 o (1 : Int32) x2 x4) fun v104 S104 =>
      B_X0_look_107 k2 fu o S104 x1 x2 v104 x2 v87
  else
    if x2 = x1 then
      B_X0_look_71 k2 k18 fu o S x1 x2 x3 x4 x5
    else
      (gR S (some o) 0 6).bind fun v33 =>
      b2 (F_X7_at S v33 x5) fun v38 S38 =>
      b2 (F_X7_hasBit S38 v38 x1) fun v42 S42 =>
      if v42 = 0 then
        B_X0_look_71 k2 k18 fu o S42 x1 x2 x3 x4 x5
      else
        (gR S42 (some o) 0 8).bind fun v49 =>
        b2 (F_X7_at S42 v49 x5) fun v54 S54 =>
        b2 (F_X7_hasBit S54 v54 x2) fun v58 S58 =>
        if v58 = 0 then
          B_X0_look_71 k2 k18 fu o S58 x1 x2 x3 x4 x5
        else
          B_X0_look_71 k2 k18 fu o S58 x1 x2 (x3 + (1 : Int32)) x5 x5
set_option maxRecDepth 100000 in
set_option maxHeartbeats 4000000 in
theorem wl_X0_look_18 {E : Cx} {l : Launch} {res : Hp} {ad : Nat → Nat} {k2 : Hp → Int32 → Option (Hp)} {k18 : Hp → Int32 → Int32 → Int32 → Option (Hp)} {fu : Nat} {o : Nat} {S : Hp} {x1 : Int32} {x2 : Int32} {x3 : Int32} {x4 : Int32} {x5 : Int32} (K : Kx E cX0_look RX0 (rmd 3 0 0)) (X : Bx E l yX0_look 6 none 0 0 ad (QV res)) (hk2 : ∀ (S : Hp) (x2 : Int32), k2 S x2 = some res → J E 0 0 2 [(0, vR (some o)), (1, vI x1), (2, vI x2)] [] S ad) (hk18 : ∀ (S : Hp) (x3 : Int32) (x4 : Int32) (x5 : Int32), k18 S x3 x4 x5 = some res → J E 0 0 18 [(0, vR (some o)), (1, vI x1), (2, vI x2), (3, vI x3), (4, vI x4), (5, vI x5)] [] S ad) (h : L_X0_look_18 k2 k18 fu o x1 x2 S x3 x4 x5 = some res) : J E 0 0 18 [(0, vR (some o)), (1, vI x1), (2, vI x2), (3, vI x3), (4, vI x4), (5, vI x5)] [] S ad := by
  refine j_iload K dX0_look_18 5 rfl ?_
  refine j_aload_n K dX0_look_20 rfl 0 rfl ?_
  obtain ⟨v21, e21, h⟩ := bd h
  refine fgX0_28 K dX0_look_21 e21 ?_
  refine j_icmp_ge K dX0_look_24 (fun c24 => ?_) (fun c24 => ?_)
  · replace h := it c24 h
    refine j_aload_n K dX0_look_77 rfl 0 rfl ?_
    obtain ⟨v78, e78, h⟩ := bd h
    refine fgX0_55 K dX0_look_78 e78 ?_
    refine j_iload_n K dX0_look_81 rfl 2 rfl ?_
    refine j_iload_n K dX0_look_82 rfl 3 rfl ?_
    obtain ⟨S83, e83, h⟩ := bd h
    refine j_cV (st := []) K (r_SN (vs := [vR v78, vI x2, vI x3]) (n := 3) (host := RX7) K (c_X7_store e83) dX0_look_83 (List.mem_of_getElem? (i := 10) rfl) z216 z1 z217 ⟨zd_X7_store, rfl, rfl, rfl, ⟨Nat.le_of_ble_eq_true rfl, Nat.le_of_ble_eq_true rfl⟩, Nat.le_of_ble_eq_true rfl, Nat.le_of_ble_eq_true rfl, Nat.le_of_ble_eq_true rfl⟩) rfl ?_
    refine j_aload_n K dX0_look_86 rfl 0 rfl ?_
    obtain ⟨v87, e87, h⟩ := bd h
    refine fgX0_58 K dX0_look_87 e87 ?_
    refine j_iload_n K dX0_look_90 rfl 2 rfl ?_
    refine j_iload_n K dX0_look_91 rfl 3 rfl ?_
    refine j_if_ne K dX0_look_92 (fun c92 => ?_) (fun c92 => ?_)
    · replace h := ie c92 h
      refine j_aload_n K dX0_look_99 rfl 0 rfl ?_
      refine j_iconst (v := (1 : Int32)) K dX0_look_100 (by decide) ?_
      refine j_iload_n K dX0_look_101 rfl 2 rfl ?_
      refine j_iload K dX0_look_102 4 rfl ?_
      obtain ⟨w104, ew104, h⟩ := bd h
      have ho104 := obS ew104
      obtain ⟨v104, S104, e104, h⟩ := bd2 h
      refine j_cI (st := [vI x2, vR v87]) K (r_V (vs := [vI (1 : Int32), vI x2, vI x4]) (n := 3) (o := o) K (c_X0_says e104) ho104 (by decide) rfl dX0_look_104 z525 z466 z467 z2 z468 ⟨zd_X0_says, rfl, rfl, rfl, ⟨Nat.le_of_ble_eq_true rfl, Nat.le_of_ble_eq_true rfl⟩, Nat.le_of_ble_eq_true rfl, Nat.le_of_ble_eq_true rfl, Nat.le_of_ble_eq_true rfl⟩) rfl ?_
      exact j_sub [0, 1, 2] rfl (w_X0_look_107 K X hk2 h)
    · replace h := it c92 h
      refine j_iconst (v := (0 : Int32)) K dX0_look_95 (by decide) ?_
      refine j_goto K dX0_look_96 ?_
      exact j_sub [0, 1, 2] rfl (w_X0_look_107 K X hk2 h)
  · replace h := ie c24 h
    refine j_iload_n K dX0_look_27 rfl 2 rfl ?_
    refine j_iload_n K dX0_look_28 rfl 1 rfl ?_
    refine j_icmp_eq K dX0_look_29 (fun c29 => ?_) (fun c29 => ?_)
    · replace h := it c29 h
      exact w_X0_look_71 K X hk2 hk18 h
    · replace h := ie c29 h
      refine j_aload_n K dX0_look_32 rfl 0 rfl ?_
      obtain ⟨v33, e33, h⟩ := bd h
      refine fgX0_31 K dX0_look_33 e33 ?_
      refine j_iload K dX0_look_36 5 rfl ?_
      obtain ⟨v38, S38, e38, h⟩ := bd2 h
      refine j_cI (st := []) K (r_SN (vs := [vR v33, vI x5]) (n := 2) (host := RX7) K (c_X7_at e38) dX0_look_38 (List.mem_of_getElem? (i := 12) rfl) z227 z1 z228 ⟨zd_X7_at, rfl, rfl, rfl, ⟨Nat.le_of_ble_eq_true rfl, Nat.le_of_ble_eq_true rfl⟩, Nat.le_of_ble_eq_true rfl, Nat.le_of_ble_eq_true rfl, Nat.le_of_ble_eq_true rfl⟩) rfl ?_
      refine j_iload_n K dX0_look_41 rfl 1 rfl ?_
      obtain ⟨v42, S42, e42, h⟩ := bd2 h
      refine j_cI (st := []) K (r_SN (vs := [vI v38, vI x1]) (n := 2) (host := RX7) K (c_X7_hasBit e42) dX0_look_42 (List.mem_of_getElem? (i := 14) rfl) z510 z1 z511 ⟨zd_X7_hasBit, rfl, rfl, rfl, ⟨Nat.le_of_ble_eq_true rfl, Nat.le_of_ble_eq_true rfl⟩, Nat.le_of_ble_eq_true rfl, Nat.le_of_ble_eq_true rfl, Nat.le_of_ble_eq_true rfl⟩) rfl ?_
      refine j_if_eq K dX0_look_45 (fun c45 => ?_) (fun c45 => ?_)
      · replace h := it c45 h
        exact w_X0_look_71 K X hk2 hk18 h
      · replace h := ie c45 h
        refine j_aload_n K dX0_look_48 rfl 0 rfl ?_
        obtain ⟨v49, e49, h⟩ := bd h
        refine fgX0_37 K dX0_look_49 e49 ?_
        refine j_iload K dX0_look_52 5 rfl ?_
        obtain ⟨v54, S54, e54, h⟩ := bd2 h
        refine j_cI (st := []) K (r_SN (vs := [vR v49, vI x5]) (n := 2) (host := RX7) K (c_X7_at e54) dX0_look_54 (List.mem_of_getElem? (i := 12) rfl) z227 z1 z228 ⟨zd_X7_at, rfl, rfl, rfl, ⟨Nat.le_of_ble_eq_true rfl, Nat.le_of_ble_eq_true rfl⟩, Nat.le_of_ble_eq_true rfl, Nat.le_of_ble_eq_true rfl, Nat.le_of_ble_eq_true rfl⟩) rfl ?_
        refine j_iload_n K dX0_look_57 rfl 2 rfl ?_
        obtain ⟨v58, S58, e58, h⟩ := bd2 h
        refine j_cI (st := []) K (r_SN (vs := [vI v54, vI x2]) (n := 2) (host := RX7) K (c_X7_hasBit e58) dX0_look_58 (List.mem_of_getElem? (i := 14) rfl) z510 z1 z511 ⟨zd_X7_hasBit, rfl, rfl, rfl, ⟨Nat.le_of_ble_eq_true rfl, Nat.le_of_ble_eq_true rfl⟩, Nat.le_of_ble_eq_true rfl, Nat.le_of_ble_eq_true rfl, Nat.le_of_ble_eq_true rfl⟩) rfl ?_
        refine j_if_eq K dX0_look_61 (fun c61 => ?_) (fun c61 => ?_)
        · replace h := it c61 h
          exact w_X0_look_71 K X hk2 hk18 h
        · replace h := ie c61 h
          refine j_iinc (q := 3) (v := (x3 + (1 : Int32))) (lv' := [(3, vI (x3 + (1 : Int32))), (0, vR (some o)), (1, vI x1), (2, vI x2), (4, vI x4), (5, vI x5)]) K dX0_look_64 rfl rfl X.2.2.1 (by decide) rfl ?_
          refine j_iload K dX0_look_67 5 rfl ?_
          refine j_istore (lv' := [(4, vI x5), (3, vI (x3 + (1 : Int32))), (0, vR (some o)), (1, vI x1), (2, vI x2), (5, vI x5)]) K dX0_look_69 X.2.2.1 (by decide) rfl ?_
          exact j_sub [2, 3, 4, 1, 0, 5] rfl (w_X0_look_71 K X hk2 hk18 h)
def B_X0_look_18 (k2 : Hp → Int32 → Option (Hp)) (fu : Nat) (o : Nat) (x1 : Int32) (x2 : Int32) : Nat → Hp → Int32 → Int32 → Int32 → Option (Hp)
  | 0 => fun _ _ _ _ => none
  | n + 1 => L_X0_look_18 k2 (B_X0_look_18 k2 fu o x1 x2 n) fu o x1 x2
theorem w_X0_look_18 {E : Cx} {l : Launch} {res : Hp} {ad : Nat → Nat} {k2 : Hp → Int32 → Option (Hp)} {fu : Nat} {o : Nat} {x1 : Int32} {x2 : Int32} (K : Kx E cX0_look RX0 (rmd 3 0 0)) (X : Bx E l yX0_look 6 none 0 0 ad (QV res)) (hk2 : ∀ (S : Hp) (x2 : Int32), k2 S x2 = some res → J E 0 0 2 [(0, vR (some o)), (1, vI x1), (2, vI x2)] [] S ad) : ∀ (n : Nat) (S : Hp) (x3 : Int32) (x4 : Int32) (x5 : Int32), B_X0_look_18 k2 fu o x1 x2 n S x3 x4 x5 = some res → J E 0 0 18 [(0, vR (some o)), (1, vI x1), (2, vI x2), (3, vI x3), (4, vI x4), (5, vI x5)] [] S ad := by
  intro n
  induction n with
  | zero =>
    intro S x3 x4 x5 h
    cases h
  | succ n ih =>
    intro S x3 x4 x5 h
    exact wl_X0_look_18 K X hk2 ih h
def L_X0_look_2 (k2 : Hp → Int32 → Option (Hp)) (fu : Nat) (o : Nat) (x1 : Int32) (S : Hp) (x2 : Int32) : Option (Hp) :=
  (gI S (some o) 0 0).bind fun v4 =>
  if v4 ≤ x2 then
    some S
  else
    B_X0_look_18 k2 fu o x1 x2 fu S (0 : Int32) (-1 : Int32) (0 : Int32)
set_option maxRecDepth 100000 in
set_option maxHeartbeats 4000000 in
theorem wl_X0_look_2 {E : Cx} {l : Launch} {res : Hp} {ad : Nat → Nat} {k2 : Hp → Int32 → Option (Hp)} {fu : Nat} {o : Nat} {S : Hp} {x1 : Int32} {x2 : Int32} (K : Kx E cX0_look RX0 (rmd 3 0 0)) (X : Bx E l yX0_look 6 none 0 0 ad (QV res)) (hk2 : ∀ (S : Hp) (x2 : Int32), k2 S x2 = some res → J E 0 0 2 [(0, vR (some o)), (1, vI x1), (2, vI x2)] [] S ad) (h : L_X0_look_2 k2 fu o x1 S x2 = some res) : J E 0 0 2 [(0, vR (some o)), (1, vI x1), (2, vI x2)] [] S ad := by
  refine j_iload_n K dX0_look_2 rfl 2 rfl ?_
  refine j_aload_n K dX0_look_3 rfl 0 rfl ?_
  obtain ⟨v4, e4, h⟩ := bd h
  refine fgX0_9 K dX0_look_4 e4 ?_
  refine j_icmp_ge K dX0_look_7 (fun c7 => ?_) (fun c7 => ?_)
  · replace h := it c7 h
    exact j_vret K X dX0_look_116 h
  · replace h := ie c7 h
    refine j_iconst (v := (0 : Int32)) K dX0_look_10 (by decide) ?_
    refine j_istore_n (lv' := [(3, vI (0 : Int32)), (0, vR (some o)), (1, vI x1), (2, vI x2)]) K dX0_look_11 rfl X.2.2.1 (by decide) rfl ?_
    refine j_iconst (v := (-1 : Int32)) K dX0_look_12 (by decide) ?_
    refine j_istore (lv' := [(4, vI (-1 : Int32)), (3, vI (0 : Int32)), (0, vR (some o)), (1, vI x1), (2, vI x2)]) K dX0_look_13 X.2.2.1 (by decide) rfl ?_
    refine j_iconst (v := (0 : Int32)) K dX0_look_15 (by decide) ?_
    refine j_istore (lv' := [(5, vI (0 : Int32)), (4, vI (-1 : Int32)), (3, vI (0 : Int32)), (0, vR (some o)), (1, vI x1), (2, vI x2)]) K dX0_look_16 X.2.2.1 (by decide) rfl ?_
    exact j_sub [3, 4, 5, 2, 1, 0] rfl (w_X0_look_18 K X hk2 _ _ _ _ _ h)
def B_X0_look_2 (fu : Nat) (o : Nat) (x1 : Int32) : Nat → Hp → Int32 → Option (Hp)
  | 0 => fun _ _ => none
  | n + 1 => L_X0_look_2 (B_X0_look_2 fu o x1 n) fu o x1
theorem w_X0_look_2 {E : Cx} {l : Launch} {res : Hp} {ad : Nat → Nat} {fu : Nat} {o : Nat} {x1 : Int32} (K : Kx E cX0_look RX0 (rmd 3 0 0)) (X : Bx E l yX0_look 6 none 0 0 ad (QV res)) : ∀ (n : Nat) (S : Hp) (x2 : Int32), B_X0_look_2 fu o x1 n S x2 = some res → J E 0 0 2 [(0, vR (some o)), (1, vI x1), (2, vI x2)] [] S ad := by
  intro n
  induction n with
  | zero =>
    intro S x2 h
    cases h
  | succ n ih =>
    intro S x2 h
    exact wl_X0_look_2 K X ih h
def F_X0_look (fu : Nat) (S : Hp) (o : Nat) (x1 : Int32) : Option (Hp) :=
  B_X0_look_2 fu o x1 fu S (0 : Int32)
set_option maxRecDepth 100000 in
set_option maxHeartbeats 4000000 in
theorem w_X0_look {E : Cx} {l : Launch} {res : Hp} {ad : Nat → Nat} {fu : Nat} {S : Hp} {o : Nat} {x1 : Int32} (K : Kx E cX0_look RX0 (rmd 3 0 0)) (X : Bx E l yX0_look 6 none 0 0 ad (QV res)) (h : F_X0_look fu S o x1 = some res) : J E 0 0 0 [(0, vR (some o)), (1, vI x1)] [] S ad := by
  refine j_iconst (v := (0 : Int32)) K dX0_look_0 (by decide) ?_
  refine j_istore_n (lv' := [(2, vI (0 : Int32)), (0, vR (some o)), (1, vI x1)]) K dX0_look_1 rfl X.2.2.1 (by decide) rfl ?_
  exact j_sub [1, 2, 0] rfl (w_X0_look_2 K X _ _ _ h)
theorem c_X0_look {l : Launch} {fu : Nat} {S : Hp} {o : Nat} {x1 : Int32} {res : Hp} (h : F_X0_look fu S o x1 = some res) : Ct l yX0_look cX0_look 6 none (rmd 3 0 0) 0 0 [vR (some o), vI x1] S (QV res) :=
  z_entry (by decide +kernel) (Nat.le_of_ble_eq_true rfl) (fun E ad K X => w_X0_look K X h)

theorem dX0_mostSightings_0 : decode cX0_mostSightings 0 = .ok (.iconst 0, 1) ∧ 0 + 1 = 1 := ⟨by decide +kernel, rfl⟩
theorem dX0_mostSightings_1 : decode cX0_mostSightings 1 = .ok (.istore_n 1, 1) ∧ 1 + 1 = 2 := ⟨by decide +kernel, rfl⟩
theorem dX0_mostSightings_2 : decode cX0_mostSightings 2 = .ok (.iconst 0, 1) ∧ 2 + 1 = 3 := ⟨by decide +kernel, rfl⟩
theorem dX0_mostSightings_3 : decode cX0_mostSightings 3 = .ok (.istore_n 2, 1) ∧ 3 + 1 = 4 := ⟨by decide +kernel, rfl⟩
theorem dX0_mostSightings_4 : decode cX0_mostSightings 4 = .ok (.iload_n 2, 1) ∧ 4 + 1 = 5 := ⟨by decide +kernel, rfl⟩
theorem dX0_mostSightings_5 : decode cX0_mostSightings 5 = .ok (.aload_n 0, 1) ∧ 5 + 1 = 6 := ⟨by decide +kernel, rfl⟩
theorem dX0_mostSightings_6 : decode cX0_mostSightings 6 = .ok (.getfield 9, 3) ∧ 6 + 3 = 9 := ⟨by decide +kernel, rfl⟩
theorem dX0_mostSightings_9 : decode cX0_mostSightings 9 = .ok (.if_icmp .ge 22, 3) ∧ 9 + 3 = 12 ∧ ((9 : Nat) : Int) + (22) = ((31 : Nat) : Int) := ⟨by decide +kernel, rfl, by decide⟩
theorem dX0_mostSightings_12 : decode cX0_mostSightings 12 = .ok (.iload_n 1, 1) ∧ 12 + 1 = 13 := ⟨by decide +kernel, rfl⟩
theorem dX0_mostSightings_13 : decode cX0_mostSightings 13 = .ok (.aload_n 0, 1) ∧ 13 + 1 = 14 := ⟨by decide +kernel, rfl⟩
theorem dX0_mostSightings_14 : decode cX0_mostSightings 14 = .ok (.getfield 55, 3) ∧ 14 + 3 = 17 := ⟨by decide +kernel, rfl⟩
theorem dX0_mostSightings_17 : decode cX0_mostSightings 17 = .ok (.iload_n 2, 1) ∧ 17 + 1 = 18 := ⟨by decide +kernel, rfl⟩
theorem dX0_mostSightings_18 : decode cX0_mostSightings 18 = .ok (.invokestatic 61, 3) := by decide +kernel
theorem dX0_mostSightings_21 : decode cX0_mostSightings 21 = .ok (.invokestatic 121, 3) ∧ 21 + 3 = 24 := ⟨by decide +kernel, rfl⟩
theorem dX0_mostSightings_24 : decode cX0_mostSightings 24 = .ok (.istore_n 1, 1) ∧ 24 + 1 = 25 := ⟨by decide +kernel, rfl⟩
theorem dX0_mostSightings_25 : decode cX0_mostSightings 25 = .ok (.iinc 2 1, 3) ∧ 25 + 3 = 28 := ⟨by decide +kernel, rfl⟩
theorem dX0_mostSightings_28 : decode cX0_mostSightings 28 = .ok (.goto (-24), 3) ∧ ((28 : Nat) : Int) + (-24) = ((4 : Nat) : Int) := ⟨by decide +kernel, by decide⟩
theorem dX0_mostSightings_31 : decode cX0_mostSightings 31 = .ok (.iload_n 1, 1) ∧ 31 + 1 = 32 := ⟨by decide +kernel, rfl⟩
theorem dX0_mostSightings_32 : decode cX0_mostSightings 32 = .ok (.ireturn, 1) := by decide +kernel
def L_X0_mostSightings_4 (k4 : Hp → Int32 → Int32 → Option (Int32 × Hp)) (fu : Nat) (o : Nat) (S : Hp) (x1 : Int32) (x2 : Int32) : Option (Int32 × Hp) :=
  (gI S (some o) 0 0).bind fun v6 =>
  if v6 ≤ x2 then
    some (x1, S)
  else
    (gR S (some o) 0 13).bind fun v14 =>
    b2 (F_X7_at S v14 x2) fun v18 S18 =>
    k4 S18 (if x1 < v18 then v18 else x1) (x2 + (1 : Int32))
set_option maxRecDepth 100000 in
set_option maxHeartbeats 4000000 in
theorem wl_X0_mostSightings_4 {E : Cx} {l : Launch} {res : Int32 × Hp} {ad : Nat → Nat} {k4 : Hp → Int32 → Int32 → Option (Int32 × Hp)} {fu : Nat} {o : Nat} {S : Hp} {x1 : Int32} {x2 : Int32} (K : Kx E cX0_mostSightings RX0 (rmd 1 0 0)) (X : Bx E l yX0_mostSightings 3 (some .int) 0 0 ad (QI res)) (hk4 : ∀ (S : Hp) (x1 : Int32) (x2 : Int32), k4 S x1 x2 = some res → J E 0 0 4 [(0, vR (some o)), (1, vI x1), (2, vI x2)] [] S ad) (h : L_X0_mostSightings_4 k4 fu o S x1 x2 = some res) : J E 0 0 4 [(0, vR (some o)), (1, vI x1), (2, vI x2)] [] S ad := by
  refine j_iload_n K dX0_mostSightings_4 rfl 2 rfl ?_
  refine j_aload_n K dX0_mostSightings_5 rfl 0 rfl ?_
  obtain ⟨v6, e6, h⟩ := bd h
  refine fgX0_9 K dX0_mostSightings_6 e6 ?_
  refine j_icmp_ge K dX0_mostSightings_9 (fun c9 => ?_) (fun c9 => ?_)
  · replace h := it c9 h
    refine j_iload_n K dX0_mostSightings_31 rfl 1 rfl ?_
    exact j_iret K X dX0_mostSightings_32 h
  · replace h := ie c9 h
    refine j_iload_n K dX0_mostSightings_12 rfl 1 rfl ?_
    refine j_aload_n K dX0_mostSightings_13 rfl 0 rfl ?_
    obtain ⟨v14, e14, h⟩ := bd h
    refine fgX0_55 K dX0_mostSightings_14 e14 ?_
    refine j_iload_n K dX0_mostSightings_17 rfl 2 rfl ?_
    obtain ⟨v18, S18, e18, h⟩ := bd2 h
    refine j_cI (st := [vI x1]) K (r_SN (vs := [vR v14, vI x2]) (n := 2) (host := RX7) K (c_X7_at e18) dX0_mostSightings_18 (List.mem_of_getElem? (i := 12) rfl) z227 z1 z228 ⟨zd_X7_at, rfl, rfl, rfl, ⟨Nat.le_of_ble_eq_true rfl, Nat.le_of_ble_eq_true rfl⟩, Nat.le_of_ble_eq_true rfl, Nat.le_of_ble_eq_true rfl, Nat.le_of_ble_eq_true rfl⟩) rfl ?_
    refine j_mmax K dX0_mostSightings_21 z602 z349 z12 z350 (Nat.le_of_ble_eq_true rfl) (Nat.le_of_ble_eq_true rfl) (Nat.le_of_ble_eq_true rfl) ⟨Nat.le_of_ble_eq_true rfl, Nat.le_of_ble_eq_true rfl⟩ ?_
    refine j_istore_n (lv' := [(1, vI (if x1 < v18 then v18 else x1)), (0, vR (some o)), (2, vI x2)]) K dX0_mostSightings_24 rfl X.2.2.1 (by decide) rfl ?_
    refine j_iinc (q := 2) (v := (x2 + (1 : Int32))) (lv' := [(2, vI (x2 + (1 : Int32))), (1, vI (if x1 < v18 then v18 else x1)), (0, vR (some o))]) K dX0_mostSightings_25 rfl rfl X.2.2.1 (by decide) rfl ?_
    refine j_goto K dX0_mostSightings_28 ?_
    exact j_sub [2, 1, 0] rfl (hk4 _ _ _ h)
def B_X0_mostSightings_4 (fu : Nat) (o : Nat) : Nat → Hp → Int32 → Int32 → Option (Int32 × Hp)
  | 0 => fun _ _ _ => none
  | n + 1 => L_X0_mostSightings_4 (B_X0_mostSightings_4 fu o n) fu o
theorem w_X0_mostSightings_4 {E : Cx} {l : Launch} {res : Int32 × Hp} {ad : Nat → Nat} {fu : Nat} {o : Nat} (K : Kx E cX0_mostSightings RX0 (rmd 1 0 0)) (X : Bx E l yX0_mostSightings 3 (some .int) 0 0 ad (QI res)) : ∀ (n : Nat) (S : Hp) (x1 : Int32) (x2 : Int32), B_X0_mostSightings_4 fu o n S x1 x2 = some res → J E 0 0 4 [(0, vR (some o)), (1, vI x1), (2, vI x2)] [] S ad := by
  intro n
  induction n with
  | zero =>
    intro S x1 x2 h
    cases h
  | succ n ih =>
    intro S x1 x2 h
    exact wl_X0_mostSightings_4 K X ih h
def F_X0_mostSightings (fu : Nat) (S : Hp) (o : Nat) : Option (Int32 × Hp) :=
  B_X0_mostSightings_4 fu o fu S (0 : Int32) (0 : Int32)
set_option maxRecDepth 100000 in
set_option maxHeartbeats 4000000 in
theorem w_X0_mostSightings {E : Cx} {l : Launch} {res : Int32 × Hp} {ad : Nat → Nat} {fu : Nat} {S : Hp} {o : Nat} (K : Kx E cX0_mostSightings RX0 (rmd 1 0 0)) (X : Bx E l yX0_mostSightings 3 (some .int) 0 0 ad (QI res)) (h : F_X0_mostSightings fu S o = some res) : J E 0 0 0 [(0, vR (some o))] [] S ad := by
  refine j_iconst (v := (0 : Int32)) K dX0_mostSightings_0 (by decide) ?_
  refine j_istore_n (lv' := [(1, vI (0 : Int32)), (0, vR (some o))]) K dX0_mostSightings_1 rfl X.2.2.1 (by decide) rfl ?_
  refine j_iconst (v := (0 : Int32)) K dX0_mostSightings_2 (by decide) ?_
  refine j_istore_n (lv' := [(2, vI (0 : Int32)), (1, vI (0 : Int32)), (0, vR (some o))]) K dX0_mostSightings_3 rfl X.2.2.1 (by decide) rfl ?_
  exact j_sub [2, 1, 0] rfl (w_X0_mostSightings_4 K X _ _ _ _ h)
theorem c_X0_mostSightings {l : Launch} {fu : Nat} {S : Hp} {o : Nat} {res : Int32 × Hp} (h : F_X0_mostSightings fu S o = some res) : Ct l yX0_mostSightings cX0_mostSightings 3 (some .int) (rmd 1 0 0) 0 0 [vR (some o)] S (QI res) :=
  z_entry (by decide +kernel) (Nat.le_of_ble_eq_true rfl) (fun E ad K X => w_X0_mostSightings K X h)

theorem dX0_catchersAt_0 : decode cX0_catchersAt 0 = .ok (.iconst 0, 1) ∧ 0 + 1 = 1 := ⟨by decide +kernel, rfl⟩
theorem dX0_catchersAt_1 : decode cX0_catchersAt 1 = .ok (.istore_n 2, 1) ∧ 1 + 1 = 2 := ⟨by decide +kernel, rfl⟩
theorem dX0_catchersAt_2 : decode cX0_catchersAt 2 = .ok (.iconst 0, 1) ∧ 2 + 1 = 3 := ⟨by decide +kernel, rfl⟩
theorem dX0_catchersAt_3 : decode cX0_catchersAt 3 = .ok (.istore_n 3, 1) ∧ 3 + 1 = 4 := ⟨by decide +kernel, rfl⟩
theorem dX0_catchersAt_4 : decode cX0_catchersAt 4 = .ok (.iload_n 3, 1) ∧ 4 + 1 = 5 := ⟨by decide +kernel, rfl⟩
theorem dX0_catchersAt_5 : decode cX0_catchersAt 5 = .ok (.aload_n 0, 1) ∧ 5 + 1 = 6 := ⟨by decide +kernel, rfl⟩
theorem dX0_catchersAt_6 : decode cX0_catchersAt 6 = .ok (.getfield 9, 3) ∧ 6 + 3 = 9 := ⟨by decide +kernel, rfl⟩
theorem dX0_catchersAt_9 : decode cX0_catchersAt 9 = .ok (.if_icmp .ge 31, 3) ∧ 9 + 3 = 12 ∧ ((9 : Nat) : Int) + (31) = ((40 : Nat) : Int) := ⟨by decide +kernel, rfl, by decide⟩
theorem dX0_catchersAt_12 : decode cX0_catchersAt 12 = .ok (.iload_n 2, 1) ∧ 12 + 1 = 13 := ⟨by decide +kernel, rfl⟩
theorem dX0_catchersAt_13 : decode cX0_catchersAt 13 = .ok (.aload_n 0, 1) ∧ 13 + 1 = 14 := ⟨by decide +kernel, rfl⟩
theorem dX0_catchersAt_14 : decode cX0_catchersAt 14 = .ok (.getfield 55, 3) ∧ 14 + 3 = 17 := ⟨by decide +kernel, rfl⟩
theorem dX0_catchersAt_17 : decode cX0_catchersAt 17 = .ok (.iload_n 3, 1) ∧ 17 + 1 = 18 := ⟨by decide +kernel, rfl⟩
theorem dX0_catchersAt_18 : decode cX0_catchersAt 18 = .ok (.invokestatic 61, 3) := by decide +kernel
theorem dX0_catchersAt_21 : decode cX0_catchersAt 21 = .ok (.iload_n 1, 1) ∧ 21 + 1 = 22 := ⟨by decide +kernel, rfl⟩
theorem dX0_catchersAt_22 : decode cX0_catchersAt 22 = .ok (.if_icmp .le 9, 3) ∧ 22 + 3 = 25 ∧ ((22 : Nat) : Int) + (9) = ((31 : Nat) : Int) := ⟨by decide +kernel, rfl, by decide⟩
theorem dX0_catchersAt_25 : decode cX0_catchersAt 25 = .ok (.iconst 1, 1) ∧ 25 + 1 = 26 := ⟨by decide +kernel, rfl⟩
theorem dX0_catchersAt_26 : decode cX0_catchersAt 26 = .ok (.iload_n 3, 1) ∧ 26 + 1 = 27 := ⟨by decide +kernel, rfl⟩
theorem dX0_catchersAt_27 : decode cX0_catchersAt 27 = .ok (.ishl, 1) ∧ 27 + 1 = 28 := ⟨by decide +kernel, rfl⟩
theorem dX0_catchersAt_28 : decode cX0_catchersAt 28 = .ok (.goto 4, 3) ∧ ((28 : Nat) : Int) + (4) = ((32 : Nat) : Int) := ⟨by decide +kernel, by decide⟩
theorem dX0_catchersAt_31 : decode cX0_catchersAt 31 = .ok (.iconst 0, 1) ∧ 31 + 1 = 32 := ⟨by decide +kernel, rfl⟩
theorem dX0_catchersAt_32 : decode cX0_catchersAt 32 = .ok (.ior, 1) ∧ 32 + 1 = 33 := ⟨by decide +kernel, rfl⟩
theorem dX0_catchersAt_33 : decode cX0_catchersAt 33 = .ok (.istore_n 2, 1) ∧ 33 + 1 = 34 := ⟨by decide +kernel, rfl⟩
theorem dX0_catchersAt_34 : decode cX0_catchersAt 34 = .ok (.iinc 3 1, 3) ∧ 34 + 3 = 37 := ⟨by decide +kernel, rfl⟩
theorem dX0_catchersAt_37 : decode cX0_catchersAt 37 = .ok (.goto (-33), 3) ∧ ((37 : Nat) : Int) + (-33) = ((4 : Nat) : Int) := ⟨by decide +kernel, by decide⟩
theorem dX0_catchersAt_40 : decode cX0_catchersAt 40 = .ok (.iload_n 2, 1) ∧ 40 + 1 = 41 := ⟨by decide +kernel, rfl⟩
theorem dX0_catchersAt_41 : decode cX0_catchersAt 41 = .ok (.ireturn, 1) := by decide +kernel
def B_X0_catchersAt_32 (k4 : Hp → Int32 → Int32 → Option (Int32 × Hp)) (fu : Nat) (o : Nat) (S : Hp) (x1 : Int32) (x3 : Int32) (s0 : Int32) (s1 : Int32) : Option (Int32 × Hp) :=
  k4 S (s1 ||| s0) (x3 + (1 : Int32))
set_option maxRecDepth 100000 in
set_option maxHeartbeats 4000000 in
theorem w_X0_catchersAt_32 {E : Cx} {l : Launch} {res : Int32 × Hp} {ad : Nat → Nat} {k4 : Hp → Int32 → Int32 → Option (Int32 × Hp)} {fu : Nat} {o : Nat} {S : Hp} {x1 : Int32} {x3 : Int32} {s0 : Int32} {s1 : Int32} (K : Kx E cX0_catchersAt RX0 (rmd 1 0 0)) (X : Bx E l yX0_catchersAt 4 (some .int) 0 0 ad (QI res)) (hk4 : ∀ (S : Hp) (x2 : Int32) (x3 : Int32), k4 S x2 x3 = some res → J E 0 0 4 [(0, vR (some o)), (1, vI x1), (2, vI x2), (3, vI x3)] [] S ad) (h : B_X0_catchersAt_32 k4 fu o S x1 x3 s0 s1 = some res) : J E 0 0 32 [(0, vR (some o)), (1, vI x1), (3, vI x3)] [vI s0, vI s1] S ad := by
  refine j_ior K dX0_catchersAt_32 ?_
  refine j_istore_n (lv' := [(2, vI (s1 ||| s0)), (0, vR (some o)), (1, vI x1), (3, vI x3)]) K dX0_catchersAt_33 rfl X.2.2.1 (by decide) rfl ?_
  refine j_iinc (q := 3) (v := (x3 + (1 : Int32))) (lv' := [(3, vI (x3 + (1 : Int32))), (2, vI (s1 ||| s0)), (0, vR (some o)), (1, vI x1)]) K dX0_catchersAt_34 rfl rfl X.2.2.1 (by decide) rfl ?_
  refine j_goto K dX0_catchersAt_37 ?_
  exact j_sub [2, 3, 1, 0] rfl (hk4 _ _ _ h)
def L_X0_catchersAt_4 (k4 : Hp → Int32 → Int32 → Option (Int32 × Hp)) (fu : Nat) (o : Nat) (x1 : Int32) (S : Hp) (x2 : Int32) (x3 : Int32) : Option (Int32 × Hp) :=
  (gI S (some o) 0 0).bind fun v6 =>
  if v6 ≤ x3 then
    some (x2, S)
  else
    (gR S (some o) 0 13).bind fun v14 =>
    b2 (F_X7_at S v14 x3) fun v18 S18 =>
    if v18 ≤ x1 then
      B_X0_catchersAt_32 k4 fu o S18 x1 x3 (0 : Int32) x2
    else
      B_X0_catchersAt_32 k4 fu o S18 x1 x3 ((1 : Int32) <<< (x3 &&& 31)) x2
set_option maxRecDepth 100000 in
set_option maxHeartbeats 4000000 in
theorem wl_X0_catchersAt_4 {E : Cx} {l : Launch} {res : Int32 × Hp} {ad : Nat → Nat} {k4 : Hp → Int32 → Int32 → Option (Int32 × Hp)} {fu : Nat} {o : Nat} {S : Hp} {x1 : Int32} {x2 : Int32} {x3 : Int32} (K : Kx E cX0_catchersAt RX0 (rmd 1 0 0)) (X : Bx E l yX0_catchersAt 4 (some .int) 0 0 ad (QI res)) (hk4 : ∀ (S : Hp) (x2 : Int32) (x3 : Int32), k4 S x2 x3 = some res → J E 0 0 4 [(0, vR (some o)), (1, vI x1), (2, vI x2), (3, vI x3)] [] S ad) (h : L_X0_catchersAt_4 k4 fu o x1 S x2 x3 = some res) : J E 0 0 4 [(0, vR (some o)), (1, vI x1), (2, vI x2), (3, vI x3)] [] S ad := by
  refine j_iload_n K dX0_catchersAt_4 rfl 3 rfl ?_
  refine j_aload_n K dX0_catchersAt_5 rfl 0 rfl ?_
  obtain ⟨v6, e6, h⟩ := bd h
  refine fgX0_9 K dX0_catchersAt_6 e6 ?_
  refine j_icmp_ge K dX0_catchersAt_9 (fun c9 => ?_) (fun c9 => ?_)
  · replace h := it c9 h
    refine j_iload_n K dX0_catchersAt_40 rfl 2 rfl ?_
    exact j_iret K X dX0_catchersAt_41 h
  · replace h := ie c9 h
    refine j_iload_n K dX0_catchersAt_12 rfl 2 rfl ?_
    refine j_aload_n K dX0_catchersAt_13 rfl 0 rfl ?_
    obtain ⟨v14, e14, h⟩ := bd h
    refine fgX0_55 K dX0_catchersAt_14 e14 ?_
    refine j_iload_n K dX0_catchersAt_17 rfl 3 rfl ?_
    obtain ⟨v18, S18, e18, h⟩ := bd2 h
    refine j_cI (st := [vI x2]) K (r_SN (vs := [vR v14, vI x3]) (n := 2) (host := RX7) K (c_X7_at e18) dX0_catchersAt_18 (List.mem_of_getElem? (i := 12) rfl) z227 z1 z228 ⟨zd_X7_at, rfl, rfl, rfl, ⟨Nat.le_of_ble_eq_true rfl, Nat.le_of_ble_eq_true rfl⟩, Nat.le_of_ble_eq_true rfl, Nat.le_of_ble_eq_true rfl, Nat.le_of_ble_eq_true rfl⟩) rfl ?_
    refine j_iload_n K dX0_catchersAt_21 rfl 1 rfl ?_
    refine j_icmp_le K dX0_catchersAt_22 (fun c22 => ?_) (fun c22 => ?_)
    · replace h := it c22 h
      refine j_iconst (v := (0 : Int32)) K dX0_catchersAt_31 (by decide) ?_
      exact j_sub [0, 1, 3] rfl (w_X0_catchersAt_32 K X hk4 h)
    · replace h := ie c22 h
      refine j_iconst (v := (1 : Int32)) K dX0_catchersAt_25 (by decide) ?_
      refine j_iload_n K dX0_catchersAt_26 rfl 3 rfl ?_
      refine j_ishl K dX0_catchersAt_27 ?_
      refine j_goto K dX0_catchersAt_28 ?_
      exact j_sub [0, 1, 3] rfl (w_X0_catchersAt_32 K X hk4 h)
def B_X0_catchersAt_4 (fu : Nat) (o : Nat) (x1 : Int32) : Nat → Hp → Int32 → Int32 → Option (Int32 × Hp)
  | 0 => fun _ _ _ => none
  | n + 1 => L_X0_catchersAt_4 (B_X0_catchersAt_4 fu o x1 n) fu o x1
theorem w_X0_catchersAt_4 {E : Cx} {l : Launch} {res : Int32 × Hp} {ad : Nat → Nat} {fu : Nat} {o : Nat} {x1 : Int32} (K : Kx E cX0_catchersAt RX0 (rmd 1 0 0)) (X : Bx E l yX0_catchersAt 4 (some .int) 0 0 ad (QI res)) : ∀ (n : Nat) (S : Hp) (x2 : Int32) (x3 : Int32), B_X0_catchersAt_4 fu o x1 n S x2 x3 = some res → J E 0 0 4 [(0, vR (some o)), (1, vI x1), (2, vI x2), (3, vI x3)] [] S ad := by
  intro n
  induction n with
  | zero =>
    intro S x2 x3 h
    cases h
  | succ n ih =>
    intro S x2 x3 h
    exact wl_X0_catchersAt_4 K X ih h
def F_X0_catchersAt (fu : Nat) (S : Hp) (o : Nat) (x1 : Int32) : Option (Int32 × Hp) :=
  B_X0_catchersAt_4 fu o x1 fu S (0 : Int32) (0 : Int32)
set_option maxRecDepth 100000 in
set_option maxHeartbeats 4000000 in
theorem w_X0_catchersAt {E : Cx} {l : Launch} {res : Int32 × Hp} {ad : Nat → Nat} {fu : Nat} {S : Hp} {o : Nat} {x1 : Int32} (K : Kx E cX0_catchersAt RX0 (rmd 1 0 0)) (X : Bx E l yX0_catchersAt 4 (some .int) 0 0 ad (QI res)) (h : F_X0_catchersAt fu S o x1 = some res) : J E 0 0 0 [(0, vR (some o)), (1, vI x1)] [] S ad := by
  refine j_iconst (v := (0 : Int32)) K dX0_catchersAt_0 (by decide) ?_
  refine j_istore_n (lv' := [(2, vI (0 : Int32)), (0, vR (some o)), (1, vI x1)]) K dX0_catchersAt_1 rfl X.2.2.1 (by decide) rfl ?_
  refine j_iconst (v := (0 : Int32)) K dX0_catchersAt_2 (by decide) ?_
  refine j_istore_n (lv' := [(3, vI (0 : Int32)), (2, vI (0 : Int32)), (0, vR (some o)), (1, vI x1)]) K dX0_catchersAt_3 rfl X.2.2.1 (by decide) rfl ?_
  exact j_sub [2, 3, 1, 0] rfl (w_X0_catchersAt_4 K X _ _ _ _ h)
theorem c_X0_catchersAt {l : Launch} {fu : Nat} {S : Hp} {o : Nat} {x1 : Int32} {res : Int32 × Hp} (h : F_X0_catchersAt fu S o x1 = some res) : Ct l yX0_catchersAt cX0_catchersAt 4 (some .int) (rmd 1 0 0) 0 0 [vR (some o), vI x1] S (QI res) :=
  z_entry (by decide +kernel) (Nat.le_of_ble_eq_true rfl) (fun E ad K X => w_X0_catchersAt K X h)

theorem dX1_doubts_0 : decode cX1_doubts 0 = .ok (.iload_n 0, 1) ∧ 0 + 1 = 1 := ⟨by decide +kernel, rfl⟩
theorem dX1_doubts_1 : decode cX1_doubts 1 = .ok (.tableswitch 50 2 5 #[31, 42, 31, 46], 31) := by decide +kernel
theorem dX1_doubts_32 : decode cX1_doubts 32 = .ok (.iload_n 2, 1) ∧ 32 + 1 = 33 := ⟨by decide +kernel, rfl⟩
theorem dX1_doubts_33 : decode cX1_doubts 33 = .ok (.iconst 2, 1) ∧ 33 + 1 = 34 := ⟨by decide +kernel, rfl⟩
theorem dX1_doubts_34 : decode cX1_doubts 34 = .ok (.if_icmp .gt 7, 3) ∧ 34 + 3 = 37 ∧ ((34 : Nat) : Int) + (7) = ((41 : Nat) : Int) := ⟨by decide +kernel, rfl, by decide⟩
theorem dX1_doubts_37 : decode cX1_doubts 37 = .ok (.iconst 0, 1) ∧ 37 + 1 = 38 := ⟨by decide +kernel, rfl⟩
theorem dX1_doubts_38 : decode cX1_doubts 38 = .ok (.goto 4, 3) ∧ ((38 : Nat) : Int) + (4) = ((42 : Nat) : Int) := ⟨by decide +kernel, by decide⟩
theorem dX1_doubts_41 : decode cX1_doubts 41 = .ok (.iload_n 1, 1) ∧ 41 + 1 = 42 := ⟨by decide +kernel, rfl⟩
theorem dX1_doubts_42 : decode cX1_doubts 42 = .ok (.ireturn, 1) := by decide +kernel
theorem dX1_doubts_43 : decode cX1_doubts 43 = .ok (.iload_n 1, 1) ∧ 43 + 1 = 44 := ⟨by decide +kernel, rfl⟩
theorem dX1_doubts_44 : decode cX1_doubts 44 = .ok (.iconst 2, 1) ∧ 44 + 1 = 45 := ⟨by decide +kernel, rfl⟩
theorem dX1_doubts_45 : decode cX1_doubts 45 = .ok (.idiv, 1) ∧ 45 + 1 = 46 := ⟨by decide +kernel, rfl⟩
theorem dX1_doubts_46 : decode cX1_doubts 46 = .ok (.ireturn, 1) := by decide +kernel
theorem dX1_doubts_47 : decode cX1_doubts 47 = .ok (.iload_n 1, 1) ∧ 47 + 1 = 48 := ⟨by decide +kernel, rfl⟩
theorem dX1_doubts_48 : decode cX1_doubts 48 = .ok (.iload_n 2, 1) ∧ 48 + 1 = 49 := ⟨by decide +kernel, rfl⟩
theorem dX1_doubts_49 : decode cX1_doubts 49 = .ok (.iadd, 1) ∧ 49 + 1 = 50 := ⟨by decide +kernel, rfl⟩
theorem dX1_doubts_50 : decode cX1_doubts 50 = .ok (.ireturn, 1) := by decide +kernel
theorem dX1_doubts_51 : decode cX1_doubts 51 = .ok (.iload_n 1, 1) ∧ 51 + 1 = 52 := ⟨by decide +kernel, rfl⟩
theorem dX1_doubts_52 : decode cX1_doubts 52 = .ok (.ireturn, 1) := by decide +kernel
def B_X1_doubts_42 (S : Hp) (s0 : Int32) : Option (Int32 × Hp) :=
  some (s0, S)
set_option maxRecDepth 100000 in
set_option maxHeartbeats 4000000 in
theorem w_X1_doubts_42 {E : Cx} {l : Launch} {res : Int32 × Hp} {ad : Nat → Nat} {S : Hp} {s0 : Int32} (K : Kx E cX1_doubts RX1 (rmd 0 0 0)) (X : Bx E l yX1_doubts 3 (some .int) 0 0 ad (QI res)) (h : B_X1_doubts_42 S s0 = some res) : J E 0 0 42 [] [vI s0] S ad := by
  exact j_iret K X dX1_doubts_42 h
def F_X1_doubts (S : Hp) (x0 : Int32) (x1 : Int32) (x2 : Int32) : Option (Int32 × Hp) :=
  if x0 = 2 then
    if (2 : Int32) < x2 then
      B_X1_doubts_42 S x1
    else
      B_X1_doubts_42 S (0 : Int32)
  else
  if x0 = 3 then
    some ((x1 / (2 : Int32)), S)
  else
  if x0 = 4 then
    if (2 : Int32) < x2 then
      B_X1_doubts_42 S x1
    else
      B_X1_doubts_42 S (0 : Int32)
  else
  if x0 = 5 then
    some ((x1 + x2), S)
  else
  some (x1, S)
set_option maxRecDepth 100000 in
set_option maxHeartbeats 4000000 in
theorem w_X1_doubts {E : Cx} {l : Launch} {res : Int32 × Hp} {ad : Nat → Nat} {S : Hp} {x0 : Int32} {x1 : Int32} {x2 : Int32} (K : Kx E cX1_doubts RX1 (rmd 0 0 0)) (X : Bx E l yX1_doubts 3 (some .int) 0 0 ad (QI res)) (h : F_X1_doubts S x0 x1 x2 = some res) : J E 0 0 0 [(0, vI x0), (1, vI x1), (2, vI x2)] [] S ad := by
  refine j_iload_n K dX1_doubts_0 rfl 0 rfl ?_
  by_cases c1_2 : x0 = 2
  · replace h := it c1_2 h
    have t1 : x0.toInt = 2 := by rw [c1_2]; rfl
    refine j_tin (tgt := 32) K dX1_doubts_1 (by rw [t1]; decide) (by rw [t1]; decide) (by rw [t1]; rfl) (by decide) ?_
    refine j_iload_n K dX1_doubts_32 rfl 2 rfl ?_
    refine j_iconst (v := (2 : Int32)) K dX1_doubts_33 (by decide) ?_
    refine j_icmp_gt K dX1_doubts_34 (fun c34 => ?_) (fun c34 => ?_)
    · replace h := it c34 h
      refine j_iload_n K dX1_doubts_41 rfl 1 rfl ?_
      exact j_sub [] rfl (w_X1_doubts_42 K X h)
    · replace h := ie c34 h
      refine j_iconst (v := (0 : Int32)) K dX1_doubts_37 (by decide) ?_
      refine j_goto K dX1_doubts_38 ?_
      exact j_sub [] rfl (w_X1_doubts_42 K X h)
  replace h := ie c1_2 h
  by_cases c1_3 : x0 = 3
  · replace h := it c1_3 h
    have t1 : x0.toInt = 3 := by rw [c1_3]; rfl
    refine j_tin (tgt := 43) K dX1_doubts_1 (by rw [t1]; decide) (by rw [t1]; decide) (by rw [t1]; rfl) (by decide) ?_
    refine j_iload_n K dX1_doubts_43 rfl 1 rfl ?_
    refine j_iconst (v := (2 : Int32)) K dX1_doubts_44 (by decide) ?_
    refine j_idiv K dX1_doubts_45 (by decide) ?_
    exact j_iret K X dX1_doubts_46 h
  replace h := ie c1_3 h
  by_cases c1_4 : x0 = 4
  · replace h := it c1_4 h
    have t1 : x0.toInt = 4 := by rw [c1_4]; rfl
    refine j_tin (tgt := 32) K dX1_doubts_1 (by rw [t1]; decide) (by rw [t1]; decide) (by rw [t1]; rfl) (by decide) ?_
    refine j_iload_n K dX1_doubts_32 rfl 2 rfl ?_
    refine j_iconst (v := (2 : Int32)) K dX1_doubts_33 (by decide) ?_
    refine j_icmp_gt K dX1_doubts_34 (fun c34 => ?_) (fun c34 => ?_)
    · replace h := it c34 h
      refine j_iload_n K dX1_doubts_41 rfl 1 rfl ?_
      exact j_sub [] rfl (w_X1_doubts_42 K X h)
    · replace h := ie c34 h
      refine j_iconst (v := (0 : Int32)) K dX1_doubts_37 (by decide) ?_
      refine j_goto K dX1_doubts_38 ?_
      exact j_sub [] rfl (w_X1_doubts_42 K X h)
  replace h := ie c1_4 h
  by_cases c1_5 : x0 = 5
  · replace h := it c1_5 h
    have t1 : x0.toInt = 5 := by rw [c1_5]; rfl
    refine j_tin (tgt := 47) K dX1_doubts_1 (by rw [t1]; decide) (by rw [t1]; decide) (by rw [t1]; rfl) (by decide) ?_
    refine j_iload_n K dX1_doubts_47 rfl 1 rfl ?_
    refine j_iload_n K dX1_doubts_48 rfl 2 rfl ?_
    refine j_iadd K dX1_doubts_49 ?_
    exact j_iret K X dX1_doubts_50 h
  replace h := ie c1_5 h
  have t1_2 : x0.toInt ≠ 2 := swn rfl c1_2
  have t1_3 : x0.toInt ≠ 3 := swn rfl c1_3
  have t1_4 : x0.toInt ≠ 4 := swn rfl c1_4
  have t1_5 : x0.toInt ≠ 5 := swn rfl c1_5
  refine j_tout (tgt := 51) K dX1_doubts_1 (by omega) (by decide) ?_
  refine j_iload_n K dX1_doubts_51 rfl 1 rfl ?_
  exact j_iret K X dX1_doubts_52 h
theorem c_X1_doubts {l : Launch} {S : Hp} {x0 : Int32} {x1 : Int32} {x2 : Int32} {res : Int32 × Hp} (h : F_X1_doubts S x0 x1 x2 = some res) : Ct l yX1_doubts cX1_doubts 3 (some .int) (rmd 0 0 0) 0 0 [vI x0, vI x1, vI x2] S (QI res) :=
  z_entry (by decide +kernel) (Nat.le_of_ble_eq_true rfl) (fun E ad K X => w_X1_doubts K X h)

theorem dX0_lossAt_0 : decode cX0_lossAt 0 = .ok (.iconst 0, 1) ∧ 0 + 1 = 1 := ⟨by decide +kernel, rfl⟩
theorem dX0_lossAt_1 : decode cX0_lossAt 1 = .ok (.istore_n 2, 1) ∧ 1 + 1 = 2 := ⟨by decide +kernel, rfl⟩
theorem dX0_lossAt_2 : decode cX0_lossAt 2 = .ok (.iconst 0, 1) ∧ 2 + 1 = 3 := ⟨by decide +kernel, rfl⟩
theorem dX0_lossAt_3 : decode cX0_lossAt 3 = .ok (.istore_n 3, 1) ∧ 3 + 1 = 4 := ⟨by decide +kernel, rfl⟩
theorem dX0_lossAt_4 : decode cX0_lossAt 4 = .ok (.iload_n 3, 1) ∧ 4 + 1 = 5 := ⟨by decide +kernel, rfl⟩
theorem dX0_lossAt_5 : decode cX0_lossAt 5 = .ok (.aload_n 0, 1) ∧ 5 + 1 = 6 := ⟨by decide +kernel, rfl⟩
theorem dX0_lossAt_6 : decode cX0_lossAt 6 = .ok (.getfield 9, 3) ∧ 6 + 3 = 9 := ⟨by decide +kernel, rfl⟩
theorem dX0_lossAt_9 : decode cX0_lossAt 9 = .ok (.if_icmp .ge 50, 3) ∧ 9 + 3 = 12 ∧ ((9 : Nat) : Int) + (50) = ((59 : Nat) : Int) := ⟨by decide +kernel, rfl, by decide⟩
theorem dX0_lossAt_12 : decode cX0_lossAt 12 = .ok (.aload_n 0, 1) ∧ 12 + 1 = 13 := ⟨by decide +kernel, rfl⟩
theorem dX0_lossAt_13 : decode cX0_lossAt 13 = .ok (.getfield 55, 3) ∧ 13 + 3 = 16 := ⟨by decide +kernel, rfl⟩
theorem dX0_lossAt_16 : decode cX0_lossAt 16 = .ok (.iload_n 3, 1) ∧ 16 + 1 = 17 := ⟨by decide +kernel, rfl⟩
theorem dX0_lossAt_17 : decode cX0_lossAt 17 = .ok (.invokestatic 61, 3) := by decide +kernel
theorem dX0_lossAt_20 : decode cX0_lossAt 20 = .ok (.iload_n 1, 1) ∧ 20 + 1 = 21 := ⟨by decide +kernel, rfl⟩
theorem dX0_lossAt_21 : decode cX0_lossAt 21 = .ok (.isub, 1) ∧ 21 + 1 = 22 := ⟨by decide +kernel, rfl⟩
theorem dX0_lossAt_22 : decode cX0_lossAt 22 = .ok (.istore 4, 2) ∧ 22 + 2 = 24 := ⟨by decide +kernel, rfl⟩
theorem dX0_lossAt_24 : decode cX0_lossAt 24 = .ok (.iload 4, 2) ∧ 24 + 2 = 26 := ⟨by decide +kernel, rfl⟩
theorem dX0_lossAt_26 : decode cX0_lossAt 26 = .ok (.ifCond .le 27, 3) ∧ 26 + 3 = 29 ∧ ((26 : Nat) : Int) + (27) = ((53 : Nat) : Int) := ⟨by decide +kernel, rfl, by decide⟩
theorem dX0_lossAt_29 : decode cX0_lossAt 29 = .ok (.iload_n 2, 1) ∧ 29 + 1 = 30 := ⟨by decide +kernel, rfl⟩
theorem dX0_lossAt_30 : decode cX0_lossAt 30 = .ok (.aload_n 0, 1) ∧ 30 + 1 = 31 := ⟨by decide +kernel, rfl⟩
theorem dX0_lossAt_31 : decode cX0_lossAt 31 = .ok (.getfield 15, 3) ∧ 31 + 3 = 34 := ⟨by decide +kernel, rfl⟩
theorem dX0_lossAt_34 : decode cX0_lossAt 34 = .ok (.iload_n 3, 1) ∧ 34 + 1 = 35 := ⟨by decide +kernel, rfl⟩
theorem dX0_lossAt_35 : decode cX0_lossAt 35 = .ok (.invokestatic 61, 3) := by decide +kernel
theorem dX0_lossAt_38 : decode cX0_lossAt 38 = .ok (.aload_n 0, 1) ∧ 38 + 1 = 39 := ⟨by decide +kernel, rfl⟩
theorem dX0_lossAt_39 : decode cX0_lossAt 39 = .ok (.getfield 58, 3) ∧ 39 + 3 = 42 := ⟨by decide +kernel, rfl⟩
theorem dX0_lossAt_42 : decode cX0_lossAt 42 = .ok (.iload_n 3, 1) ∧ 42 + 1 = 43 := ⟨by decide +kernel, rfl⟩
theorem dX0_lossAt_43 : decode cX0_lossAt 43 = .ok (.invokestatic 61, 3) := by decide +kernel
theorem dX0_lossAt_46 : decode cX0_lossAt 46 = .ok (.iload 4, 2) ∧ 46 + 2 = 48 := ⟨by decide +kernel, rfl⟩
theorem dX0_lossAt_48 : decode cX0_lossAt 48 = .ok (.invokestatic 126, 3) := by decide +kernel
theorem dX0_lossAt_51 : decode cX0_lossAt 51 = .ok (.iadd, 1) ∧ 51 + 1 = 52 := ⟨by decide +kernel, rfl⟩
theorem dX0_lossAt_52 : decode cX0_lossAt 52 = .ok (.istore_n 2, 1) ∧ 52 + 1 = 53 := ⟨by decide +kernel, rfl⟩
theorem dX0_lossAt_53 : decode cX0_lossAt 53 = .ok (.iinc 3 1, 3) ∧ 53 + 3 = 56 := ⟨by decide +kernel, rfl⟩
theorem dX0_lossAt_56 : decode cX0_lossAt 56 = .ok (.goto (-52), 3) ∧ ((56 : Nat) : Int) + (-52) = ((4 : Nat) : Int) := ⟨by decide +kernel, by decide⟩
theorem dX0_lossAt_59 : decode cX0_lossAt 59 = .ok (.iload_n 2, 1) ∧ 59 + 1 = 60 := ⟨by decide +kernel, rfl⟩
theorem dX0_lossAt_60 : decode cX0_lossAt 60 = .ok (.ireturn, 1) := by decide +kernel
def B_X0_lossAt_53 (k4 : Hp → Int32 → Int32 → Option (Int32 × Hp)) (fu : Nat) (o : Nat) (S : Hp) (x1 : Int32) (x2 : Int32) (x3 : Int32) : Option (Int32 × Hp) :=
  k4 S x2 (x3 + (1 : Int32))
set_option maxRecDepth 100000 in
set_option maxHeartbeats 4000000 in
theorem w_X0_lossAt_53 {E : Cx} {l : Launch} {res : Int32 × Hp} {ad : Nat → Nat} {k4 : Hp → Int32 → Int32 → Option (Int32 × Hp)} {fu : Nat} {o : Nat} {S : Hp} {x1 : Int32} {x2 : Int32} {x3 : Int32} (K : Kx E cX0_lossAt RX0 (rmd 1 0 0)) (X : Bx E l yX0_lossAt 5 (some .int) 0 0 ad (QI res)) (hk4 : ∀ (S : Hp) (x2 : Int32) (x3 : Int32), k4 S x2 x3 = some res → J E 0 0 4 [(0, vR (some o)), (1, vI x1), (2, vI x2), (3, vI x3)] [] S ad) (h : B_X0_lossAt_53 k4 fu o S x1 x2 x3 = some res) : J E 0 0 53 [(0, vR (some o)), (1, vI x1), (2, vI x2), (3, vI x3)] [] S ad := by
  refine j_iinc (q := 3) (v := (x3 + (1 : Int32))) (lv' := [(3, vI (x3 + (1 : Int32))), (0, vR (some o)), (1, vI x1), (2, vI x2)]) K dX0_lossAt_53 rfl rfl X.2.2.1 (by decide) rfl ?_
  refine j_goto K dX0_lossAt_56 ?_
  exact j_sub [1, 2, 3, 0] rfl (hk4 _ _ _ h)
def L_X0_lossAt_4 (k4 : Hp → Int32 → Int32 → Option (Int32 × Hp)) (fu : Nat) (o : Nat) (x1 : Int32) (S : Hp) (x2 : Int32) (x3 : Int32) : Option (Int32 × Hp) :=
  (gI S (some o) 0 0).bind fun v6 =>
  if v6 ≤ x3 then
    some (x2, S)
  else
    (gR S (some o) 0 13).bind fun v13 =>
    b2 (F_X7_at S v13 x3) fun v17 S17 =>
    if (v17 - x1) ≤ 0 then
      B_X0_lossAt_53 k4 fu o S17 x1 x2 x3
    else
      (gR S17 (some o) 0 1).bind fun v31 =>
      b2 (F_X7_at S17 v31 x3) fun v35 S35 =>
      (gR S35 (some o) 0 14).bind fun v39 =>
      b2 (F_X7_at S35 v39 x3) fun v43 S43 =>
      b2 (F_X1_doubts S43 v35 v43 (v17 - x1)) fun v48 S48 =>
      B_X0_lossAt_53 k4 fu o S48 x1 (x2 + v48) x3
set_option maxRecDepth 100000 in
set_option maxHeartbeats 4000000 in
theorem wl_X0_lossAt_4 {E : Cx} {l : Launch} {res : Int32 × Hp} {ad : Nat → Nat} {k4 : Hp → Int32 → Int32 → Option (Int32 × Hp)} {fu : Nat} {o : Nat} {S : Hp} {x1 : Int32} {x2 : Int32} {x3 : Int32} (K : Kx E cX0_lossAt RX0 (rmd 1 0 0)) (X : Bx E l yX0_lossAt 5 (some .int) 0 0 ad (QI res)) (hk4 : ∀ (S : Hp) (x2 : Int32) (x3 : Int32), k4 S x2 x3 = some res → J E 0 0 4 [(0, vR (some o)), (1, vI x1), (2, vI x2), (3, vI x3)] [] S ad) (h : L_X0_lossAt_4 k4 fu o x1 S x2 x3 = some res) : J E 0 0 4 [(0, vR (some o)), (1, vI x1), (2, vI x2), (3, vI x3)] [] S ad := by
  refine j_iload_n K dX0_lossAt_4 rfl 3 rfl ?_
  refine j_aload_n K dX0_lossAt_5 rfl 0 rfl ?_
  obtain ⟨v6, e6, h⟩ := bd h
  refine fgX0_9 K dX0_lossAt_6 e6 ?_
  refine j_icmp_ge K dX0_lossAt_9 (fun c9 => ?_) (fun c9 => ?_)
  · replace h := it c9 h
    refine j_iload_n K dX0_lossAt_59 rfl 2 rfl ?_
    exact j_iret K X dX0_lossAt_60 h
  · replace h := ie c9 h
    refine j_aload_n K dX0_lossAt_12 rfl 0 rfl ?_
    obtain ⟨v13, e13, h⟩ := bd h
    refine fgX0_55 K dX0_lossAt_13 e13 ?_
    refine j_iload_n K dX0_lossAt_16 rfl 3 rfl ?_
    obtain ⟨v17, S17, e17, h⟩ := bd2 h
    refine j_cI (st := []) K (r_SN (vs := [vR v13, vI x3]) (n := 2) (host := RX7) K (c_X7_at e17) dX0_lossAt_17 (List.mem_of_getElem? (i := 12) rfl) z227 z1 z228 ⟨zd_X7_at, rfl, rfl, rfl, ⟨Nat.le_of_ble_eq_true rfl, Nat.le_of_ble_eq_true rfl⟩, Nat.le_of_ble_eq_true rfl, Nat.le_of_ble_eq_true rfl, Nat.le_of_ble_eq_true rfl⟩) rfl ?_
    refine j_iload_n K dX0_lossAt_20 rfl 1 rfl ?_
    refine j_isub K dX0_lossAt_21 ?_
    refine j_istore (lv' := [(4, vI (v17 - x1)), (0, vR (some o)), (1, vI x1), (2, vI x2), (3, vI x3)]) K dX0_lossAt_22 X.2.2.1 (by decide) rfl ?_
    refine j_iload K dX0_lossAt_24 0 rfl ?_
    refine j_if_le K dX0_lossAt_26 (fun c26 => ?_) (fun c26 => ?_)
    · replace h := it c26 h
      exact j_sub [1, 2, 3, 4] rfl (w_X0_lossAt_53 K X hk4 h)
    · replace h := ie c26 h
      refine j_iload_n K dX0_lossAt_29 rfl 3 rfl ?_
      refine j_aload_n K dX0_lossAt_30 rfl 1 rfl ?_
      obtain ⟨v31, e31, h⟩ := bd h
      refine fgX0_15 K dX0_lossAt_31 e31 ?_
      refine j_iload_n K dX0_lossAt_34 rfl 4 rfl ?_
      obtain ⟨v35, S35, e35, h⟩ := bd2 h
      refine j_cI (st := [vI x2]) K (r_SN (vs := [vR v31, vI x3]) (n := 2) (host := RX7) K (c_X7_at e35) dX0_lossAt_35 (List.mem_of_getElem? (i := 12) rfl) z227 z1 z228 ⟨zd_X7_at, rfl, rfl, rfl, ⟨Nat.le_of_ble_eq_true rfl, Nat.le_of_ble_eq_true rfl⟩, Nat.le_of_ble_eq_true rfl, Nat.le_of_ble_eq_true rfl, Nat.le_of_ble_eq_true rfl⟩) rfl ?_
      refine j_aload_n K dX0_lossAt_38 rfl 1 rfl ?_
      obtain ⟨v39, e39, h⟩ := bd h
      refine fgX0_58 K dX0_lossAt_39 e39 ?_
      refine j_iload_n K dX0_lossAt_42 rfl 4 rfl ?_
      obtain ⟨v43, S43, e43, h⟩ := bd2 h
      refine j_cI (st := [vI v35, vI x2]) K (r_SN (vs := [vR v39, vI x3]) (n := 2) (host := RX7) K (c_X7_at e43) dX0_lossAt_43 (List.mem_of_getElem? (i := 12) rfl) z227 z1 z228 ⟨zd_X7_at, rfl, rfl, rfl, ⟨Nat.le_of_ble_eq_true rfl, Nat.le_of_ble_eq_true rfl⟩, Nat.le_of_ble_eq_true rfl, Nat.le_of_ble_eq_true rfl, Nat.le_of_ble_eq_true rfl⟩) rfl ?_
      refine j_iload K dX0_lossAt_46 0 rfl ?_
      obtain ⟨v48, S48, e48, h⟩ := bd2 h
      refine j_cI (st := [vI x2]) K (r_S (vs := [vI v35, vI v43, vI (v17 - x1)]) (n := 3) K (c_X1_doubts e48) dX0_lossAt_48 z541 z542 z15 z543 ⟨zd_X1_doubts, rfl, rfl, rfl, ⟨Nat.le_of_ble_eq_true rfl, Nat.le_of_ble_eq_true rfl⟩, Nat.le_of_ble_eq_true rfl, Nat.le_of_ble_eq_true rfl, Nat.le_of_ble_eq_true rfl⟩) rfl ?_
      refine j_iadd K dX0_lossAt_51 ?_
      refine j_istore_n (lv' := [(2, vI (x2 + v48)), (4, vI (v17 - x1)), (0, vR (some o)), (1, vI x1), (3, vI x3)]) K dX0_lossAt_52 rfl X.2.2.1 (by decide) rfl ?_
      exact j_sub [2, 3, 0, 4] rfl (w_X0_lossAt_53 K X hk4 h)
def B_X0_lossAt_4 (fu : Nat) (o : Nat) (x1 : Int32) : Nat → Hp → Int32 → Int32 → Option (Int32 × Hp)
  | 0 => fun _ _ _ => none
  | n + 1 => L_X0_lossAt_4 (B_X0_lossAt_4 fu o x1 n) fu o x1
theorem w_X0_lossAt_4 {E : Cx} {l : Launch} {res : Int32 × Hp} {ad : Nat → Nat} {fu : Nat} {o : Nat} {x1 : Int32} (K : Kx E cX0_lossAt RX0 (rmd 1 0 0)) (X : Bx E l yX0_lossAt 5 (some .int) 0 0 ad (QI res)) : ∀ (n : Nat) (S : Hp) (x2 : Int32) (x3 : Int32), B_X0_lossAt_4 fu o x1 n S x2 x3 = some res → J E 0 0 4 [(0, vR (some o)), (1, vI x1), (2, vI x2), (3, vI x3)] [] S ad := by
  intro n
  induction n with
  | zero =>
    intro S x2 x3 h
    cases h
  | succ n ih =>
    intro S x2 x3 h
    exact wl_X0_lossAt_4 K X ih h
def F_X0_lossAt (fu : Nat) (S : Hp) (o : Nat) (x1 : Int32) : Option (Int32 × Hp) :=
  B_X0_lossAt_4 fu o x1 fu S (0 : Int32) (0 : Int32)
set_option maxRecDepth 100000 in
set_option maxHeartbeats 4000000 in
theorem w_X0_lossAt {E : Cx} {l : Launch} {res : Int32 × Hp} {ad : Nat → Nat} {fu : Nat} {S : Hp} {o : Nat} {x1 : Int32} (K : Kx E cX0_lossAt RX0 (rmd 1 0 0)) (X : Bx E l yX0_lossAt 5 (some .int) 0 0 ad (QI res)) (h : F_X0_lossAt fu S o x1 = some res) : J E 0 0 0 [(0, vR (some o)), (1, vI x1)] [] S ad := by
  refine j_iconst (v := (0 : Int32)) K dX0_lossAt_0 (by decide) ?_
  refine j_istore_n (lv' := [(2, vI (0 : Int32)), (0, vR (some o)), (1, vI x1)]) K dX0_lossAt_1 rfl X.2.2.1 (by decide) rfl ?_
  refine j_iconst (v := (0 : Int32)) K dX0_lossAt_2 (by decide) ?_
  refine j_istore_n (lv' := [(3, vI (0 : Int32)), (2, vI (0 : Int32)), (0, vR (some o)), (1, vI x1)]) K dX0_lossAt_3 rfl X.2.2.1 (by decide) rfl ?_
  exact j_sub [2, 3, 1, 0] rfl (w_X0_lossAt_4 K X _ _ _ _ h)
theorem c_X0_lossAt {l : Launch} {fu : Nat} {S : Hp} {o : Nat} {x1 : Int32} {res : Int32 × Hp} (h : F_X0_lossAt fu S o x1 = some res) : Ct l yX0_lossAt cX0_lossAt 5 (some .int) (rmd 1 0 0) 0 0 [vR (some o), vI x1] S (QI res) :=
  z_entry (by decide +kernel) (Nat.le_of_ble_eq_true rfl) (fun E ad K X => w_X0_lossAt K X h)

theorem dX0_thoughtAt_0 : decode cX0_thoughtAt 0 = .ok (.aload_n 0, 1) ∧ 0 + 1 = 1 := ⟨by decide +kernel, rfl⟩
theorem dX0_thoughtAt_1 : decode cX0_thoughtAt 1 = .ok (.getfield 25, 3) ∧ 1 + 3 = 4 := ⟨by decide +kernel, rfl⟩
theorem dX0_thoughtAt_4 : decode cX0_thoughtAt 4 = .ok (.iload_n 1, 1) ∧ 4 + 1 = 5 := ⟨by decide +kernel, rfl⟩
theorem dX0_thoughtAt_5 : decode cX0_thoughtAt 5 = .ok (.invokestatic 61, 3) := by decide +kernel
theorem dX0_thoughtAt_8 : decode cX0_thoughtAt 8 = .ok (.iload_n 2, 1) ∧ 8 + 1 = 9 := ⟨by decide +kernel, rfl⟩
theorem dX0_thoughtAt_9 : decode cX0_thoughtAt 9 = .ok (.isub, 1) ∧ 9 + 1 = 10 := ⟨by decide +kernel, rfl⟩
theorem dX0_thoughtAt_10 : decode cX0_thoughtAt 10 = .ok (.aload_n 0, 1) ∧ 10 + 1 = 11 := ⟨by decide +kernel, rfl⟩
theorem dX0_thoughtAt_11 : decode cX0_thoughtAt 11 = .ok (.iload_n 2, 1) ∧ 11 + 1 = 12 := ⟨by decide +kernel, rfl⟩
theorem dX0_thoughtAt_12 : decode cX0_thoughtAt 12 = .ok (.invokevirtual 129, 3) := by decide +kernel
theorem dX0_thoughtAt_15 : decode cX0_thoughtAt 15 = .ok (.isub, 1) ∧ 15 + 1 = 16 := ⟨by decide +kernel, rfl⟩
theorem dX0_thoughtAt_16 : decode cX0_thoughtAt 16 = .ok (.sipush 999, 3) ∧ 16 + 3 = 19 := ⟨by decide +kernel, rfl⟩
theorem dX0_thoughtAt_19 : decode cX0_thoughtAt 19 = .ok (.invokestatic 99, 3) := by decide +kernel
theorem dX0_thoughtAt_22 : decode cX0_thoughtAt 22 = .ok (.ireturn, 1) := by decide +kernel
def F_X0_thoughtAt (fu : Nat) (S : Hp) (o : Nat) (x1 : Int32) (x2 : Int32) : Option (Int32 × Hp) :=
  (gR S (some o) 0 4).bind fun v1 =>
  b2 (F_X7_at S v1 x1) fun v5 S5 =>
  (ob S5 0 (some o)).bind fun _ =>
  b2 (F_X0_lossAt fu S5 o x2) fun v12 S12 =>
  b2 (F_X7_bounded S12 ((v5 - x2) - v12) (999 : Int32)) fun v19 S19 =>
  some (v19, S19)
set_option maxRecDepth 100000 in
set_option maxHeartbeats 4000000 in
theorem w_X0_thoughtAt {E : Cx} {l : Launch} {res : Int32 × Hp} {ad : Nat → Nat} {fu : Nat} {S : Hp} {o : Nat} {x1 : Int32} {x2 : Int32} (K : Kx E cX0_thoughtAt RX0 (rmd 2 0 0)) (X : Bx E l yX0_thoughtAt 3 (some .int) 0 0 ad (QI res)) (h : F_X0_thoughtAt fu S o x1 x2 = some res) : J E 0 0 0 [(0, vR (some o)), (1, vI x1), (2, vI x2)] [] S ad := by
  refine j_aload_n K dX0_thoughtAt_0 rfl 0 rfl ?_
  obtain ⟨v1, e1, h⟩ := bd h
  refine fgX0_25 K dX0_thoughtAt_1 e1 ?_
  refine j_iload_n K dX0_thoughtAt_4 rfl 1 rfl ?_
  obtain ⟨v5, S5, e5, h⟩ := bd2 h
  refine j_cI (st := []) K (r_SN (vs := [vR v1, vI x1]) (n := 2) (host := RX7) K (c_X7_at e5) dX0_thoughtAt_5 (List.mem_of_getElem? (i := 12) rfl) z227 z1 z228 ⟨zd_X7_at, rfl, rfl, rfl, ⟨Nat.le_of_ble_eq_true rfl, Nat.le_of_ble_eq_true rfl⟩, Nat.le_of_ble_eq_true rfl, Nat.le_of_ble_eq_true rfl, Nat.le_of_ble_eq_true rfl⟩) rfl ?_
  refine j_iload_n K dX0_thoughtAt_8 rfl 2 rfl ?_
  refine j_isub K dX0_thoughtAt_9 ?_
  refine j_aload_n K dX0_thoughtAt_10 rfl 0 rfl ?_
  refine j_iload_n K dX0_thoughtAt_11 rfl 2 rfl ?_
  obtain ⟨w12, ew12, h⟩ := bd h
  have ho12 := obS ew12
  obtain ⟨v12, S12, e12, h⟩ := bd2 h
  refine j_cI (st := [vI (v5 - x2)]) K (r_V (vs := [vI x2]) (n := 1) (o := o) K (c_X0_lossAt e12) ho12 (by decide) rfl dX0_thoughtAt_12 z548 z538 z539 z2 z540 ⟨zd_X0_lossAt, rfl, rfl, rfl, ⟨Nat.le_of_ble_eq_true rfl, Nat.le_of_ble_eq_true rfl⟩, Nat.le_of_ble_eq_true rfl, Nat.le_of_ble_eq_true rfl, Nat.le_of_ble_eq_true rfl⟩) rfl ?_
  refine j_isub K dX0_thoughtAt_15 ?_
  refine j_sipush (v := (999 : Int32)) K dX0_thoughtAt_16 (by decide) ?_
  obtain ⟨v19, S19, e19, h⟩ := bd2 h
  refine j_cI (st := []) K (r_SN (vs := [vI ((v5 - x2) - v12), vI (999 : Int32)]) (n := 2) (host := RX7) K (c_X7_bounded e19) dX0_thoughtAt_19 (List.mem_of_getElem? (i := 13) rfl) z343 z1 z344 ⟨zd_X7_bounded, rfl, rfl, rfl, ⟨Nat.le_of_ble_eq_true rfl, Nat.le_of_ble_eq_true rfl⟩, Nat.le_of_ble_eq_true rfl, Nat.le_of_ble_eq_true rfl, Nat.le_of_ble_eq_true rfl⟩) rfl ?_
  exact j_iret K X dX0_thoughtAt_22 h
theorem c_X0_thoughtAt {l : Launch} {fu : Nat} {S : Hp} {o : Nat} {x1 : Int32} {x2 : Int32} {res : Int32 × Hp} (h : F_X0_thoughtAt fu S o x1 x2 = some res) : Ct l yX0_thoughtAt cX0_thoughtAt 3 (some .int) (rmd 2 0 0) 0 0 [vR (some o), vI x1, vI x2] S (QI res) :=
  z_entry (by decide +kernel) (Nat.le_of_ble_eq_true rfl) (fun E ad K X => w_X0_thoughtAt K X h)

theorem dX0_catchersOfAnybody_0 : decode cX0_catchersOfAnybody 0 = .ok (.iconst 0, 1) ∧ 0 + 1 = 1 := ⟨by decide +kernel, rfl⟩
theorem dX0_catchersOfAnybody_1 : decode cX0_catchersOfAnybody 1 = .ok (.istore_n 1, 1) ∧ 1 + 1 = 2 := ⟨by decide +kernel, rfl⟩
theorem dX0_catchersOfAnybody_2 : decode cX0_catchersOfAnybody 2 = .ok (.iconst 0, 1) ∧ 2 + 1 = 3 := ⟨by decide +kernel, rfl⟩
theorem dX0_catchersOfAnybody_3 : decode cX0_catchersOfAnybody 3 = .ok (.istore_n 2, 1) ∧ 3 + 1 = 4 := ⟨by decide +kernel, rfl⟩
theorem dX0_catchersOfAnybody_4 : decode cX0_catchersOfAnybody 4 = .ok (.iload_n 2, 1) ∧ 4 + 1 = 5 := ⟨by decide +kernel, rfl⟩
theorem dX0_catchersOfAnybody_5 : decode cX0_catchersOfAnybody 5 = .ok (.aload_n 0, 1) ∧ 5 + 1 = 6 := ⟨by decide +kernel, rfl⟩
theorem dX0_catchersOfAnybody_6 : decode cX0_catchersOfAnybody 6 = .ok (.getfield 9, 3) ∧ 6 + 3 = 9 := ⟨by decide +kernel, rfl⟩
theorem dX0_catchersOfAnybody_9 : decode cX0_catchersOfAnybody 9 = .ok (.if_icmp .ge 26, 3) ∧ 9 + 3 = 12 ∧ ((9 : Nat) : Int) + (26) = ((35 : Nat) : Int) := ⟨by decide +kernel, rfl, by decide⟩
theorem dX0_catchersOfAnybody_12 : decode cX0_catchersOfAnybody 12 = .ok (.aload_n 0, 1) ∧ 12 + 1 = 13 := ⟨by decide +kernel, rfl⟩
theorem dX0_catchersOfAnybody_13 : decode cX0_catchersOfAnybody 13 = .ok (.iload_n 2, 1) ∧ 13 + 1 = 14 := ⟨by decide +kernel, rfl⟩
theorem dX0_catchersOfAnybody_14 : decode cX0_catchersOfAnybody 14 = .ok (.invokevirtual 132, 3) := by decide +kernel
theorem dX0_catchersOfAnybody_17 : decode cX0_catchersOfAnybody 17 = .ok (.iload_n 1, 1) ∧ 17 + 1 = 18 := ⟨by decide +kernel, rfl⟩
theorem dX0_catchersOfAnybody_18 : decode cX0_catchersOfAnybody 18 = .ok (.aload_n 0, 1) ∧ 18 + 1 = 19 := ⟨by decide +kernel, rfl⟩
theorem dX0_catchersOfAnybody_19 : decode cX0_catchersOfAnybody 19 = .ok (.aload_n 0, 1) ∧ 19 + 1 = 20 := ⟨by decide +kernel, rfl⟩
theorem dX0_catchersOfAnybody_20 : decode cX0_catchersOfAnybody 20 = .ok (.iload_n 2, 1) ∧ 20 + 1 = 21 := ⟨by decide +kernel, rfl⟩
theorem dX0_catchersOfAnybody_21 : decode cX0_catchersOfAnybody 21 = .ok (.invokevirtual 118, 3) := by decide +kernel
theorem dX0_catchersOfAnybody_24 : decode cX0_catchersOfAnybody 24 = .ok (.invokevirtual 136, 3) := by decide +kernel
theorem dX0_catchersOfAnybody_27 : decode cX0_catchersOfAnybody 27 = .ok (.ior, 1) ∧ 27 + 1 = 28 := ⟨by decide +kernel, rfl⟩
theorem dX0_catchersOfAnybody_28 : decode cX0_catchersOfAnybody 28 = .ok (.istore_n 1, 1) ∧ 28 + 1 = 29 := ⟨by decide +kernel, rfl⟩
theorem dX0_catchersOfAnybody_29 : decode cX0_catchersOfAnybody 29 = .ok (.iinc 2 1, 3) ∧ 29 + 3 = 32 := ⟨by decide +kernel, rfl⟩
theorem dX0_catchersOfAnybody_32 : decode cX0_catchersOfAnybody 32 = .ok (.goto (-28), 3) ∧ ((32 : Nat) : Int) + (-28) = ((4 : Nat) : Int) := ⟨by decide +kernel, by decide⟩
theorem dX0_catchersOfAnybody_35 : decode cX0_catchersOfAnybody 35 = .ok (.iload_n 1, 1) ∧ 35 + 1 = 36 := ⟨by decide +kernel, rfl⟩
theorem dX0_catchersOfAnybody_36 : decode cX0_catchersOfAnybody 36 = .ok (.ireturn, 1) := by decide +kernel
def L_X0_catchersOfAnybody_4 (k4 : Hp → Int32 → Int32 → Option (Int32 × Hp)) (fu : Nat) (o : Nat) (S : Hp) (x1 : Int32) (x2 : Int32) : Option (Int32 × Hp) :=
  (gI S (some o) 0 0).bind fun v6 =>
  if v6 ≤ x2 then
    some (x1, S)
  else
    (ob S 0 (some o)).bind fun _ =>
    (F_X0_look fu S o x2).bind fun S14 =>
    (ob S14 0 (some o)).bind fun _ =>
    b2 (F_X0_beats fu S14 o x2) fun v21 S21 =>
    (ob S21 0 (some o)).bind fun _ =>
    b2 (F_X0_catchersAt fu S21 o v21) fun v24 S24 =>
    k4 S24 (x1 ||| v24) (x2 + (1 : Int32))
set_option maxRecDepth 100000 in
set_option maxHeartbeats 4000000 in
theorem wl_X0_catchersOfAnybody_4 {E : Cx} {l : Launch} {res : Int32 × Hp} {ad : Nat → Nat} {k4 : Hp → Int32 → Int32 → Option (Int32 × Hp)} {fu : Nat} {o : Nat} {S : Hp} {x1 : Int32} {x2 : Int32} (K : Kx E cX0_catchersOfAnybody RX0 (rmd 5 0 0)) (X : Bx E l yX0_catchersOfAnybody 3 (some .int) 0 0 ad (QI res)) (hk4 : ∀ (S : Hp) (x1 : Int32) (x2 : Int32), k4 S x1 x2 = some res → J E 0 0 4 [(0, vR (some o)), (1, vI x1), (2, vI x2)] [] S ad) (h : L_X0_catchersOfAnybody_4 k4 fu o S x1 x2 = some res) : J E 0 0 4 [(0, vR (some o)), (1, vI x1), (2, vI x2)] [] S ad := by
  refine j_iload_n K dX0_catchersOfAnybody_4 rfl 2 rfl ?_
  refine j_aload_n K dX0_catchersOfAnybody_5 rfl 0 rfl ?_
  obtain ⟨v6, e6, h⟩ := bd h
  refine fgX0_9 K dX0_catchersOfAnybody_6 e6 ?_
  refine j_icmp_ge K dX0_catchersOfAnybody_9 (fun c9 => ?_) (fun c9 => ?_)
  · replace h := it c9 h
    refine j_iload_n K dX0_catchersOfAnybody_35 rfl 1 rfl ?_
    exact j_iret K X dX0_catchersOfAnybody_36 h
  · replace h := ie c9 h
    refine j_aload_n K dX0_catchersOfAnybody_12 rfl 0 rfl ?_
    refine j_iload_n K dX0_catchersOfAnybody_13 rfl 2 rfl ?_
    obtain ⟨w14, ew14, h⟩ := bd h
    have ho14 := obS ew14
    obtain ⟨S14, e14, h⟩ := bd h
    refine j_cV (st := []) K (r_V (vs := [vI x2]) (n := 1) (o := o) K (c_X0_look e14) ho14 (by decide) rfl dX0_catchersOfAnybody_14 z570 z530 z531 z2 z532 ⟨zd_X0_look, rfl, rfl, rfl, ⟨Nat.le_of_ble_eq_true rfl, Nat.le_of_ble_eq_true rfl⟩, Nat.le_of_ble_eq_true rfl, Nat.le_of_ble_eq_true rfl, Nat.le_of_ble_eq_true rfl⟩) rfl ?_
    refine j_iload_n K dX0_catchersOfAnybody_17 rfl 1 rfl ?_
    refine j_aload_n K dX0_catchersOfAnybody_18 rfl 0 rfl ?_
    refine j_aload_n K dX0_catchersOfAnybody_19 rfl 0 rfl ?_
    refine j_iload_n K dX0_catchersOfAnybody_20 rfl 2 rfl ?_
    obtain ⟨w21, ew21, h⟩ := bd h
    have ho21 := obS ew21
    obtain ⟨v21, S21, e21, h⟩ := bd2 h
    refine j_cI (st := [vR (some o), vI x1]) K (r_V (vs := [vI x2]) (n := 1) (o := o) K (c_X0_beats e21) ho21 (by decide) rfl dX0_catchersOfAnybody_21 z557 z518 z519 z2 z520 ⟨zd_X0_beats, rfl, rfl, rfl, ⟨Nat.le_of_ble_eq_true rfl, Nat.le_of_ble_eq_true rfl⟩, Nat.le_of_ble_eq_true rfl, Nat.le_of_ble_eq_true rfl, Nat.le_of_ble_eq_true rfl⟩) rfl ?_
    obtain ⟨w24, ew24, h⟩ := bd h
    have ho24 := obS ew24
    obtain ⟨v24, S24, e24, h⟩ := bd2 h
    refine j_cI (st := [vI x1]) K (r_V (vs := [vI v21]) (n := 1) (o := o) K (c_X0_catchersAt e24) ho24 (by decide) rfl dX0_catchersOfAnybody_24 z571 z534 z535 z2 z536 ⟨zd_X0_catchersAt, rfl, rfl, rfl, ⟨Nat.le_of_ble_eq_true rfl, Nat.le_of_ble_eq_true rfl⟩, Nat.le_of_ble_eq_true rfl, Nat.le_of_ble_eq_true rfl, Nat.le_of_ble_eq_true rfl⟩) rfl ?_
    refine j_ior K dX0_catchersOfAnybody_27 ?_
    refine j_istore_n (lv' := [(1, vI (x1 ||| v24)), (0, vR (some o)), (2, vI x2)]) K dX0_catchersOfAnybody_28 rfl X.2.2.1 (by decide) rfl ?_
    refine j_iinc (q := 2) (v := (x2 + (1 : Int32))) (lv' := [(2, vI (x2 + (1 : Int32))), (1, vI (x1 ||| v24)), (0, vR (some o))]) K dX0_catchersOfAnybody_29 rfl rfl X.2.2.1 (by decide) rfl ?_
    refine j_goto K dX0_catchersOfAnybody_32 ?_
    exact j_sub [2, 1, 0] rfl (hk4 _ _ _ h)
def B_X0_catchersOfAnybody_4 (fu : Nat) (o : Nat) : Nat → Hp → Int32 → Int32 → Option (Int32 × Hp)
  | 0 => fun _ _ _ => none
  | n + 1 => L_X0_catchersOfAnybody_4 (B_X0_catchersOfAnybody_4 fu o n) fu o
theorem w_X0_catchersOfAnybody_4 {E : Cx} {l : Launch} {res : Int32 × Hp} {ad : Nat → Nat} {fu : Nat} {o : Nat} (K : Kx E cX0_catchersOfAnybody RX0 (rmd 5 0 0)) (X : Bx E l yX0_catchersOfAnybody 3 (some .int) 0 0 ad (QI res)) : ∀ (n : Nat) (S : Hp) (x1 : Int32) (x2 : Int32), B_X0_catchersOfAnybody_4 fu o n S x1 x2 = some res → J E 0 0 4 [(0, vR (some o)), (1, vI x1), (2, vI x2)] [] S ad := by
  intro n
  induction n with
  | zero =>
    intro S x1 x2 h
    cases h
  | succ n ih =>
    intro S x1 x2 h
    exact wl_X0_catchersOfAnybody_4 K X ih h
def F_X0_catchersOfAnybody (fu : Nat) (S : Hp) (o : Nat) : Option (Int32 × Hp) :=
  B_X0_catchersOfAnybody_4 fu o fu S (0 : Int32) (0 : Int32)
set_option maxRecDepth 100000 in
set_option maxHeartbeats 4000000 in
theorem w_X0_catchersOfAnybody {E : Cx} {l : Launch} {res : Int32 × Hp} {ad : Nat → Nat} {fu : Nat} {S : Hp} {o : Nat} (K : Kx E cX0_catchersOfAnybody RX0 (rmd 5 0 0)) (X : Bx E l yX0_catchersOfAnybody 3 (some .int) 0 0 ad (QI res)) (h : F_X0_catchersOfAnybody fu S o = some res) : J E 0 0 0 [(0, vR (some o))] [] S ad := by
  refine j_iconst (v := (0 : Int32)) K dX0_catchersOfAnybody_0 (by decide) ?_
  refine j_istore_n (lv' := [(1, vI (0 : Int32)), (0, vR (some o))]) K dX0_catchersOfAnybody_1 rfl X.2.2.1 (by decide) rfl ?_
  refine j_iconst (v := (0 : Int32)) K dX0_catchersOfAnybody_2 (by decide) ?_
  refine j_istore_n (lv' := [(2, vI (0 : Int32)), (1, vI (0 : Int32)), (0, vR (some o))]) K dX0_catchersOfAnybody_3 rfl X.2.2.1 (by decide) rfl ?_
  exact j_sub [2, 1, 0] rfl (w_X0_catchersOfAnybody_4 K X _ _ _ _ h)
theorem c_X0_catchersOfAnybody {l : Launch} {fu : Nat} {S : Hp} {o : Nat} {res : Int32 × Hp} (h : F_X0_catchersOfAnybody fu S o = some res) : Ct l yX0_catchersOfAnybody cX0_catchersOfAnybody 3 (some .int) (rmd 5 0 0) 0 0 [vR (some o)] S (QI res) :=
  z_entry (by decide +kernel) (Nat.le_of_ble_eq_true rfl) (fun E ad K X => w_X0_catchersOfAnybody K X h)

theorem dX0_caught_0 : decode cX0_caught 0 = .ok (.iconst 0, 1) ∧ 0 + 1 = 1 := ⟨by decide +kernel, rfl⟩
theorem dX0_caught_1 : decode cX0_caught 1 = .ok (.istore_n 1, 1) ∧ 1 + 1 = 2 := ⟨by decide +kernel, rfl⟩
theorem dX0_caught_2 : decode cX0_caught 2 = .ok (.iconst 0, 1) ∧ 2 + 1 = 3 := ⟨by decide +kernel, rfl⟩
theorem dX0_caught_3 : decode cX0_caught 3 = .ok (.istore_n 2, 1) ∧ 3 + 1 = 4 := ⟨by decide +kernel, rfl⟩
theorem dX0_caught_4 : decode cX0_caught 4 = .ok (.iload_n 2, 1) ∧ 4 + 1 = 5 := ⟨by decide +kernel, rfl⟩
theorem dX0_caught_5 : decode cX0_caught 5 = .ok (.aload_n 0, 1) ∧ 5 + 1 = 6 := ⟨by decide +kernel, rfl⟩
theorem dX0_caught_6 : decode cX0_caught 6 = .ok (.getfield 9, 3) ∧ 6 + 3 = 9 := ⟨by decide +kernel, rfl⟩
theorem dX0_caught_9 : decode cX0_caught 9 = .ok (.if_icmp .ge 36, 3) ∧ 9 + 3 = 12 ∧ ((9 : Nat) : Int) + (36) = ((45 : Nat) : Int) := ⟨by decide +kernel, rfl, by decide⟩
theorem dX0_caught_12 : decode cX0_caught 12 = .ok (.aload_n 0, 1) ∧ 12 + 1 = 13 := ⟨by decide +kernel, rfl⟩
theorem dX0_caught_13 : decode cX0_caught 13 = .ok (.iload_n 2, 1) ∧ 13 + 1 = 14 := ⟨by decide +kernel, rfl⟩
theorem dX0_caught_14 : decode cX0_caught 14 = .ok (.invokevirtual 132, 3) := by decide +kernel
theorem dX0_caught_17 : decode cX0_caught 17 = .ok (.iload_n 1, 1) ∧ 17 + 1 = 18 := ⟨by decide +kernel, rfl⟩
theorem dX0_caught_18 : decode cX0_caught 18 = .ok (.aload_n 0, 1) ∧ 18 + 1 = 19 := ⟨by decide +kernel, rfl⟩
theorem dX0_caught_19 : decode cX0_caught 19 = .ok (.aload_n 0, 1) ∧ 19 + 1 = 20 := ⟨by decide +kernel, rfl⟩
theorem dX0_caught_20 : decode cX0_caught 20 = .ok (.iload_n 2, 1) ∧ 20 + 1 = 21 := ⟨by decide +kernel, rfl⟩
theorem dX0_caught_21 : decode cX0_caught 21 = .ok (.invokevirtual 118, 3) := by decide +kernel
theorem dX0_caught_24 : decode cX0_caught 24 = .ok (.invokevirtual 136, 3) := by decide +kernel
theorem dX0_caught_27 : decode cX0_caught 27 = .ok (.ifCond .eq 9, 3) ∧ 27 + 3 = 30 ∧ ((27 : Nat) : Int) + (9) = ((36 : Nat) : Int) := ⟨by decide +kernel, rfl, by decide⟩
theorem dX0_caught_30 : decode cX0_caught 30 = .ok (.iconst 1, 1) ∧ 30 + 1 = 31 := ⟨by decide +kernel, rfl⟩
theorem dX0_caught_31 : decode cX0_caught 31 = .ok (.iload_n 2, 1) ∧ 31 + 1 = 32 := ⟨by decide +kernel, rfl⟩
theorem dX0_caught_32 : decode cX0_caught 32 = .ok (.ishl, 1) ∧ 32 + 1 = 33 := ⟨by decide +kernel, rfl⟩
theorem dX0_caught_33 : decode cX0_caught 33 = .ok (.goto 4, 3) ∧ ((33 : Nat) : Int) + (4) = ((37 : Nat) : Int) := ⟨by decide +kernel, by decide⟩
theorem dX0_caught_36 : decode cX0_caught 36 = .ok (.iconst 0, 1) ∧ 36 + 1 = 37 := ⟨by decide +kernel, rfl⟩
theorem dX0_caught_37 : decode cX0_caught 37 = .ok (.ior, 1) ∧ 37 + 1 = 38 := ⟨by decide +kernel, rfl⟩
theorem dX0_caught_38 : decode cX0_caught 38 = .ok (.istore_n 1, 1) ∧ 38 + 1 = 39 := ⟨by decide +kernel, rfl⟩
theorem dX0_caught_39 : decode cX0_caught 39 = .ok (.iinc 2 1, 3) ∧ 39 + 3 = 42 := ⟨by decide +kernel, rfl⟩
theorem dX0_caught_42 : decode cX0_caught 42 = .ok (.goto (-38), 3) ∧ ((42 : Nat) : Int) + (-38) = ((4 : Nat) : Int) := ⟨by decide +kernel, by decide⟩
theorem dX0_caught_45 : decode cX0_caught 45 = .ok (.iload_n 1, 1) ∧ 45 + 1 = 46 := ⟨by decide +kernel, rfl⟩
theorem dX0_caught_46 : decode cX0_caught 46 = .ok (.ireturn, 1) := by decide +kernel
def B_X0_caught_37 (k4 : Hp → Int32 → Int32 → Option (Int32 × Hp)) (fu : Nat) (o : Nat) (S : Hp) (x2 : Int32) (s0 : Int32) (s1 : Int32) : Option (Int32 × Hp) :=
  k4 S (s1 ||| s0) (x2 + (1 : Int32))
set_option maxRecDepth 100000 in
set_option maxHeartbeats 4000000 in
theorem w_X0_caught_37 {E : Cx} {l : Launch} {res : Int32 × Hp} {ad : Nat → Nat} {k4 : Hp → Int32 → Int32 → Option (Int32 × Hp)} {fu : Nat} {o : Nat} {S : Hp} {x2 : Int32} {s0 : Int32} {s1 : Int32} (K : Kx E cX0_caught RX0 (rmd 5 0 0)) (X : Bx E l yX0_caught 3 (some .int) 0 0 ad (QI res)) (hk4 : ∀ (S : Hp) (x1 : Int32) (x2 : Int32), k4 S x1 x2 = some res → J E 0 0 4 [(0, vR (some o)), (1, vI x1), (2, vI x2)] [] S ad) (h : B_X0_caught_37 k4 fu o S x2 s0 s1 = some res) : J E 0 0 37 [(0, vR (some o)), (2, vI x2)] [vI s0, vI s1] S ad := by
  refine j_ior K dX0_caught_37 ?_
  refine j_istore_n (lv' := [(1, vI (s1 ||| s0)), (0, vR (some o)), (2, vI x2)]) K dX0_caught_38 rfl X.2.2.1 (by decide) rfl ?_
  refine j_iinc (q := 2) (v := (x2 + (1 : Int32))) (lv' := [(2, vI (x2 + (1 : Int32))), (1, vI (s1 ||| s0)), (0, vR (some o))]) K dX0_caught_39 rfl rfl X.2.2.1 (by decide) rfl ?_
  refine j_goto K dX0_caught_42 ?_
  exact j_sub [2, 1, 0] rfl (hk4 _ _ _ h)
def L_X0_caught_4 (k4 : Hp → Int32 → Int32 → Option (Int32 × Hp)) (fu : Nat) (o : Nat) (S : Hp) (x1 : Int32) (x2 : Int32) : Option (Int32 × Hp) :=
  (gI S (some o) 0 0).bind fun v6 =>
  if v6 ≤ x2 then
    some (x1, S)
  else
    (ob S 0 (some o)).bind fun _ =>
    (F_X0_look fu S o x2).bind fun S14 =>
    (ob S14 0 (some o)).bind fun _ =>
    b2 (F_X0_beats fu S14 o x2) fun v21 S21 =>
    (ob S21 0 (some o)).bind fun _ =>
    b2 (F_X0_catchersAt fu S21 o v21) fun v24 S24 =>
    if v24 = 0 then
      B_X0_caught_37 k4 fu o S24 x2 (0 : Int32) x1
    else
      B_X0_caught_37 k4 fu o S24 x2 ((1 : Int32) <<< (x2 &&& 31)) x1
set_option maxRecDepth 100000 in
set_option maxHeartbeats 4000000 in
theorem wl_X0_caught_4 {E : Cx} {l : Launch} {res : Int32 × Hp} {ad : Nat → Nat} {k4 : Hp → Int32 → Int32 → Option (Int32 × Hp)} {fu : Nat} {o : Nat} {S : Hp} {x1 : Int32} {x2 : Int32} (K : Kx E cX0_caught RX0 (rmd 5 0 0)) (X : Bx E l yX0_caught 3 (some .int) 0 0 ad (QI res)) (hk4 : ∀ (S : Hp) (x1 : Int32) (x2 : Int32), k4 S x1 x2 = some res → J E 0 0 4 [(0, vR (some o)), (1, vI x1), (2, vI x2)] [] S ad) (h : L_X0_caught_4 k4 fu o S x1 x2 = some res) : J E 0 0 4 [(0, vR (some o)), (1, vI x1), (2, vI x2)] [] S ad := by
  refine j_iload_n K dX0_caught_4 rfl 2 rfl ?_
  refine j_aload_n K dX0_caught_5 rfl 0 rfl ?_
  obtain ⟨v6, e6, h⟩ := bd h
  refine fgX0_9 K dX0_caught_6 e6 ?_
  refine j_icmp_ge K dX0_caught_9 (fun c9 => ?_) (fun c9 => ?_)
  · replace h := it c9 h
    refine j_iload_n K dX0_caught_45 rfl 1 rfl ?_
    exact j_iret K X dX0_caught_46 h
  · replace h := ie c9 h
    refine j_aload_n K dX0_caught_12 rfl 0 rfl ?_
    refine j_iload_n K dX0_caught_13 rfl 2 rfl ?_
    obtain ⟨w14, ew14, h⟩ := bd h
    have ho14 := obS ew14
    obtain ⟨S14, e14, h⟩ := bd h
    refine j_cV (st := []) K (r_V (vs := [vI x2]) (n := 1) (o := o) K (c_X0_look e14) ho14 (by decide) rfl dX0_caught_14 z570 z530 z531 z2 z532 ⟨zd_X0_look, rfl, rfl, rfl, ⟨Nat.le_of_ble_eq_true rfl, Nat.le_of_ble_eq_true rfl⟩, Nat.le_of_ble_eq_true rfl, Nat.le_of_ble_eq_true rfl, Nat.le_of_ble_eq_true rfl⟩) rfl ?_
    refine j_iload_n K dX0_caught_17 rfl 1 rfl ?_
    refine j_aload_n K dX0_caught_18 rfl 0 rfl ?_
    refine j_aload_n K dX0_caught_19 rfl 0 rfl ?_
    refine j_iload_n K dX0_caught_20 rfl 2 rfl ?_
    obtain ⟨w21, ew21, h⟩ := bd h
    have ho21 := obS ew21
    obtain ⟨v21, S21, e21, h⟩ := bd2 h
    refine j_cI (st := [vR (some o), vI x1]) K (r_V (vs := [vI x2]) (n := 1) (o := o) K (c_X0_beats e21) ho21 (by decide) rfl dX0_caught_21 z557 z518 z519 z2 z520 ⟨zd_X0_beats, rfl, rfl, rfl, ⟨Nat.le_of_ble_eq_true rfl, Nat.le_of_ble_eq_true rfl⟩, Nat.le_of_ble_eq_true rfl, Nat.le_of_ble_eq_true rfl, Nat.le_of_ble_eq_true rfl⟩) rfl ?_
    obtain ⟨w24, ew24, h⟩ := bd h
    have ho24 := obS ew24
    obtain ⟨v24, S24, e24, h⟩ := bd2 h
    refine j_cI (st := [vI x1]) K (r_V (vs := [vI v21]) (n := 1) (o := o) K (c_X0_catchersAt e24) ho24 (by decide) rfl dX0_caught_24 z571 z534 z535 z2 z536 ⟨zd_X0_catchersAt, rfl, rfl, rfl, ⟨Nat.le_of_ble_eq_true rfl, Nat.le_of_ble_eq_true rfl⟩, Nat.le_of_ble_eq_true rfl, Nat.le_of_ble_eq_true rfl, Nat.le_of_ble_eq_true rfl⟩) rfl ?_
    refine j_if_eq K dX0_caught_27 (fun c27 => ?_) (fun c27 => ?_)
    · replace h := it c27 h
      refine j_iconst (v := (0 : Int32)) K dX0_caught_36 (by decide) ?_
      exact j_sub [0, 2] rfl (w_X0_caught_37 K X hk4 h)
    · replace h := ie c27 h
      refine j_iconst (v := (1 : Int32)) K dX0_caught_30 (by decide) ?_
      refine j_iload_n K dX0_caught_31 rfl 2 rfl ?_
      refine j_ishl K dX0_caught_32 ?_
      refine j_goto K dX0_caught_33 ?_
      exact j_sub [0, 2] rfl (w_X0_caught_37 K X hk4 h)
def B_X0_caught_4 (fu : Nat) (o : Nat) : Nat → Hp → Int32 → Int32 → Option (Int32 × Hp)
  | 0 => fun _ _ _ => none
  | n + 1 => L_X0_caught_4 (B_X0_caught_4 fu o n) fu o
theorem w_X0_caught_4 {E : Cx} {l : Launch} {res : Int32 × Hp} {ad : Nat → Nat} {fu : Nat} {o : Nat} (K : Kx E cX0_caught RX0 (rmd 5 0 0)) (X : Bx E l yX0_caught 3 (some .int) 0 0 ad (QI res)) : ∀ (n : Nat) (S : Hp) (x1 : Int32) (x2 : Int32), B_X0_caught_4 fu o n S x1 x2 = some res → J E 0 0 4 [(0, vR (some o)), (1, vI x1), (2, vI x2)] [] S ad := by
  intro n
  induction n with
  | zero =>
    intro S x1 x2 h
    cases h
  | succ n ih =>
    intro S x1 x2 h
    exact wl_X0_caught_4 K X ih h
def F_X0_caught (fu : Nat) (S : Hp) (o : Nat) : Option (Int32 × Hp) :=
  B_X0_caught_4 fu o fu S (0 : Int32) (0 : Int32)
set_option maxRecDepth 100000 in
set_option maxHeartbeats 4000000 in
theorem w_X0_caught {E : Cx} {l : Launch} {res : Int32 × Hp} {ad : Nat → Nat} {fu : Nat} {S : Hp} {o : Nat} (K : Kx E cX0_caught RX0 (rmd 5 0 0)) (X : Bx E l yX0_caught 3 (some .int) 0 0 ad (QI res)) (h : F_X0_caught fu S o = some res) : J E 0 0 0 [(0, vR (some o))] [] S ad := by
  refine j_iconst (v := (0 : Int32)) K dX0_caught_0 (by decide) ?_
  refine j_istore_n (lv' := [(1, vI (0 : Int32)), (0, vR (some o))]) K dX0_caught_1 rfl X.2.2.1 (by decide) rfl ?_
  refine j_iconst (v := (0 : Int32)) K dX0_caught_2 (by decide) ?_
  refine j_istore_n (lv' := [(2, vI (0 : Int32)), (1, vI (0 : Int32)), (0, vR (some o))]) K dX0_caught_3 rfl X.2.2.1 (by decide) rfl ?_
  exact j_sub [2, 1, 0] rfl (w_X0_caught_4 K X _ _ _ _ h)
theorem c_X0_caught {l : Launch} {fu : Nat} {S : Hp} {o : Nat} {res : Int32 × Hp} (h : F_X0_caught fu S o = some res) : Ct l yX0_caught cX0_caught 3 (some .int) (rmd 5 0 0) 0 0 [vR (some o)] S (QI res) :=
  z_entry (by decide +kernel) (Nat.le_of_ble_eq_true rfl) (fun E ad K X => w_X0_caught K X h)

theorem dX0_thoughtOfAll_0 : decode cX0_thoughtOfAll 0 = .ok (.iconst 0, 1) ∧ 0 + 1 = 1 := ⟨by decide +kernel, rfl⟩
theorem dX0_thoughtOfAll_1 : decode cX0_thoughtOfAll 1 = .ok (.istore_n 1, 1) ∧ 1 + 1 = 2 := ⟨by decide +kernel, rfl⟩
theorem dX0_thoughtOfAll_2 : decode cX0_thoughtOfAll 2 = .ok (.iconst 0, 1) ∧ 2 + 1 = 3 := ⟨by decide +kernel, rfl⟩
theorem dX0_thoughtOfAll_3 : decode cX0_thoughtOfAll 3 = .ok (.istore_n 2, 1) ∧ 3 + 1 = 4 := ⟨by decide +kernel, rfl⟩
theorem dX0_thoughtOfAll_4 : decode cX0_thoughtOfAll 4 = .ok (.iload_n 2, 1) ∧ 4 + 1 = 5 := ⟨by decide +kernel, rfl⟩
theorem dX0_thoughtOfAll_5 : decode cX0_thoughtOfAll 5 = .ok (.aload_n 0, 1) ∧ 5 + 1 = 6 := ⟨by decide +kernel, rfl⟩
theorem dX0_thoughtOfAll_6 : decode cX0_thoughtOfAll 6 = .ok (.getfield 9, 3) ∧ 6 + 3 = 9 := ⟨by decide +kernel, rfl⟩
theorem dX0_thoughtOfAll_9 : decode cX0_thoughtOfAll 9 = .ok (.if_icmp .ge 27, 3) ∧ 9 + 3 = 12 ∧ ((9 : Nat) : Int) + (27) = ((36 : Nat) : Int) := ⟨by decide +kernel, rfl, by decide⟩
theorem dX0_thoughtOfAll_12 : decode cX0_thoughtOfAll 12 = .ok (.aload_n 0, 1) ∧ 12 + 1 = 13 := ⟨by decide +kernel, rfl⟩
theorem dX0_thoughtOfAll_13 : decode cX0_thoughtOfAll 13 = .ok (.iload_n 2, 1) ∧ 13 + 1 = 14 := ⟨by decide +kernel, rfl⟩
theorem dX0_thoughtOfAll_14 : decode cX0_thoughtOfAll 14 = .ok (.invokevirtual 132, 3) := by decide +kernel
theorem dX0_thoughtOfAll_17 : decode cX0_thoughtOfAll 17 = .ok (.iload_n 1, 1) ∧ 17 + 1 = 18 := ⟨by decide +kernel, rfl⟩
theorem dX0_thoughtOfAll_18 : decode cX0_thoughtOfAll 18 = .ok (.aload_n 0, 1) ∧ 18 + 1 = 19 := ⟨by decide +kernel, rfl⟩
theorem dX0_thoughtOfAll_19 : decode cX0_thoughtOfAll 19 = .ok (.iload_n 2, 1) ∧ 19 + 1 = 20 := ⟨by decide +kernel, rfl⟩
theorem dX0_thoughtOfAll_20 : decode cX0_thoughtOfAll 20 = .ok (.aload_n 0, 1) ∧ 20 + 1 = 21 := ⟨by decide +kernel, rfl⟩
theorem dX0_thoughtOfAll_21 : decode cX0_thoughtOfAll 21 = .ok (.iload_n 2, 1) ∧ 21 + 1 = 22 := ⟨by decide +kernel, rfl⟩
theorem dX0_thoughtOfAll_22 : decode cX0_thoughtOfAll 22 = .ok (.invokevirtual 118, 3) := by decide +kernel
theorem dX0_thoughtOfAll_25 : decode cX0_thoughtOfAll 25 = .ok (.invokevirtual 139, 3) := by decide +kernel
theorem dX0_thoughtOfAll_28 : decode cX0_thoughtOfAll 28 = .ok (.iadd, 1) ∧ 28 + 1 = 29 := ⟨by decide +kernel, rfl⟩
theorem dX0_thoughtOfAll_29 : decode cX0_thoughtOfAll 29 = .ok (.istore_n 1, 1) ∧ 29 + 1 = 30 := ⟨by decide +kernel, rfl⟩
theorem dX0_thoughtOfAll_30 : decode cX0_thoughtOfAll 30 = .ok (.iinc 2 1, 3) ∧ 30 + 3 = 33 := ⟨by decide +kernel, rfl⟩
theorem dX0_thoughtOfAll_33 : decode cX0_thoughtOfAll 33 = .ok (.goto (-29), 3) ∧ ((33 : Nat) : Int) + (-29) = ((4 : Nat) : Int) := ⟨by decide +kernel, by decide⟩
theorem dX0_thoughtOfAll_36 : decode cX0_thoughtOfAll 36 = .ok (.iload_n 1, 1) ∧ 36 + 1 = 37 := ⟨by decide +kernel, rfl⟩
theorem dX0_thoughtOfAll_37 : decode cX0_thoughtOfAll 37 = .ok (.ireturn, 1) := by decide +kernel
def L_X0_thoughtOfAll_4 (k4 : Hp → Int32 → Int32 → Option (Int32 × Hp)) (fu : Nat) (o : Nat) (S : Hp) (x1 : Int32) (x2 : Int32) : Option (Int32 × Hp) :=
  (gI S (some o) 0 0).bind fun v6 =>
  if v6 ≤ x2 then
    some (x1, S)
  else
    (ob S 0 (some o)).bind fun _ =>
    (F_X0_look fu S o x2).bind fun S14 =>
    (ob S14 0 (some o)).bind fun _ =>
    b2 (F_X0_beats fu S14 o x2) fun v22 S22 =>
    (ob S22 0 (some o)).bind fun _ =>
    b2 (F_X0_thoughtAt fu S22 o x2 v22) fun v25 S25 =>
    k4 S25 (x1 + v25) (x2 + (1 : Int32))
set_option maxRecDepth 100000 in
set_option maxHeartbeats 4000000 in
theorem wl_X0_thoughtOfAll_4 {E : Cx} {l : Launch} {res : Int32 × Hp} {ad : Nat → Nat} {k4 : Hp → Int32 → Int32 → Option (Int32 × Hp)} {fu : Nat} {o : Nat} {S : Hp} {x1 : Int32} {x2 : Int32} (K : Kx E cX0_thoughtOfAll RX0 (rmd 5 0 0)) (X : Bx E l yX0_thoughtOfAll 3 (some .int) 0 0 ad (QI res)) (hk4 : ∀ (S : Hp) (x1 : Int32) (x2 : Int32), k4 S x1 x2 = some res → J E 0 0 4 [(0, vR (some o)), (1, vI x1), (2, vI x2)] [] S ad) (h : L_X0_thoughtOfAll_4 k4 fu o S x1 x2 = some res) : J E 0 0 4 [(0, vR (some o)), (1, vI x1), (2, vI x2)] [] S ad := by
  refine j_iload_n K dX0_thoughtOfAll_4 rfl 2 rfl ?_
  refine j_aload_n K dX0_thoughtOfAll_5 rfl 0 rfl ?_
  obtain ⟨v6, e6, h⟩ := bd h
  refine fgX0_9 K dX0_thoughtOfAll_6 e6 ?_
  refine j_icmp_ge K dX0_thoughtOfAll_9 (fun c9 => ?_) (fun c9 => ?_)
  · replace h := it c9 h
    refine j_iload_n K dX0_thoughtOfAll_36 rfl 1 rfl ?_
    exact j_iret K X dX0_thoughtOfAll_37 h
  · replace h := ie c9 h
    refine j_aload_n K dX0_thoughtOfAll_12 rfl 0 rfl ?_
    refine j_iload_n K dX0_thoughtOfAll_13 rfl 2 rfl ?_
    obtain ⟨w14, ew14, h⟩ := bd h
    have ho14 := obS ew14
    obtain ⟨S14, e14, h⟩ := bd h
    refine j_cV (st := []) K (r_V (vs := [vI x2]) (n := 1) (o := o) K (c_X0_look e14) ho14 (by decide) rfl dX0_thoughtOfAll_14 z570 z530 z531 z2 z532 ⟨zd_X0_look, rfl, rfl, rfl, ⟨Nat.le_of_ble_eq_true rfl, Nat.le_of_ble_eq_true rfl⟩, Nat.le_of_ble_eq_true rfl, Nat.le_of_ble_eq_true rfl, Nat.le_of_ble_eq_true rfl⟩) rfl ?_
    refine j_iload_n K dX0_thoughtOfAll_17 rfl 1 rfl ?_
    refine j_aload_n K dX0_thoughtOfAll_18 rfl 0 rfl ?_
    refine j_iload_n K dX0_thoughtOfAll_19 rfl 2 rfl ?_
    refine j_aload_n K dX0_thoughtOfAll_20 rfl 0 rfl ?_
    refine j_iload_n K dX0_thoughtOfAll_21 rfl 2 rfl ?_
    obtain ⟨w22, ew22, h⟩ := bd h
    have ho22 := obS ew22
    obtain ⟨v22, S22, e22, h⟩ := bd2 h
    refine j_cI (st := [vI x2, vR (some o), vI x1]) K (r_V (vs := [vI x2]) (n := 1) (o := o) K (c_X0_beats e22) ho22 (by decide) rfl dX0_thoughtOfAll_22 z557 z518 z519 z2 z520 ⟨zd_X0_beats, rfl, rfl, rfl, ⟨Nat.le_of_ble_eq_true rfl, Nat.le_of_ble_eq_true rfl⟩, Nat.le_of_ble_eq_true rfl, Nat.le_of_ble_eq_true rfl, Nat.le_of_ble_eq_true rfl⟩) rfl ?_
    obtain ⟨w25, ew25, h⟩ := bd h
    have ho25 := obS ew25
    obtain ⟨v25, S25, e25, h⟩ := bd2 h
    refine j_cI (st := [vI x1]) K (r_V (vs := [vI x2, vI v22]) (n := 2) (o := o) K (c_X0_thoughtAt e25) ho25 (by decide) rfl dX0_thoughtOfAll_25 z580 z545 z546 z2 z547 ⟨zd_X0_thoughtAt, rfl, rfl, rfl, ⟨Nat.le_of_ble_eq_true rfl, Nat.le_of_ble_eq_true rfl⟩, Nat.le_of_ble_eq_true rfl, Nat.le_of_ble_eq_true rfl, Nat.le_of_ble_eq_true rfl⟩) rfl ?_
    refine j_iadd K dX0_thoughtOfAll_28 ?_
    refine j_istore_n (lv' := [(1, vI (x1 + v25)), (0, vR (some o)), (2, vI x2)]) K dX0_thoughtOfAll_29 rfl X.2.2.1 (by decide) rfl ?_
    refine j_iinc (q := 2) (v := (x2 + (1 : Int32))) (lv' := [(2, vI (x2 + (1 : Int32))), (1, vI (x1 + v25)), (0, vR (some o))]) K dX0_thoughtOfAll_30 rfl rfl X.2.2.1 (by decide) rfl ?_
    refine j_goto K dX0_thoughtOfAll_33 ?_
    exact j_sub [2, 1, 0] rfl (hk4 _ _ _ h)
def B_X0_thoughtOfAll_4 (fu : Nat) (o : Nat) : Nat → Hp → Int32 → Int32 → Option (Int32 × Hp)
  | 0 => fun _ _ _ => none
  | n + 1 => L_X0_thoughtOfAll_4 (B_X0_thoughtOfAll_4 fu o n) fu o
theorem w_X0_thoughtOfAll_4 {E : Cx} {l : Launch} {res : Int32 × Hp} {ad : Nat → Nat} {fu : Nat} {o : Nat} (K : Kx E cX0_thoughtOfAll RX0 (rmd 5 0 0)) (X : Bx E l yX0_thoughtOfAll 3 (some .int) 0 0 ad (QI res)) : ∀ (n : Nat) (S : Hp) (x1 : Int32) (x2 : Int32), B_X0_thoughtOfAll_4 fu o n S x1 x2 = some res → J E 0 0 4 [(0, vR (some o)), (1, vI x1), (2, vI x2)] [] S ad := by
  intro n
  induction n with
  | zero =>
    intro S x1 x2 h
    cases h
  | succ n ih =>
    intro S x1 x2 h
    exact wl_X0_thoughtOfAll_4 K X ih h
def F_X0_thoughtOfAll (fu : Nat) (S : Hp) (o : Nat) : Option (Int32 × Hp) :=
  B_X0_thoughtOfAll_4 fu o fu S (0 : Int32) (0 : Int32)
set_option maxRecDepth 100000 in
set_option maxHeartbeats 4000000 in
theorem w_X0_thoughtOfAll {E : Cx} {l : Launch} {res : Int32 × Hp} {ad : Nat → Nat} {fu : Nat} {S : Hp} {o : Nat} (K : Kx E cX0_thoughtOfAll RX0 (rmd 5 0 0)) (X : Bx E l yX0_thoughtOfAll 3 (some .int) 0 0 ad (QI res)) (h : F_X0_thoughtOfAll fu S o = some res) : J E 0 0 0 [(0, vR (some o))] [] S ad := by
  refine j_iconst (v := (0 : Int32)) K dX0_thoughtOfAll_0 (by decide) ?_
  refine j_istore_n (lv' := [(1, vI (0 : Int32)), (0, vR (some o))]) K dX0_thoughtOfAll_1 rfl X.2.2.1 (by decide) rfl ?_
  refine j_iconst (v := (0 : Int32)) K dX0_thoughtOfAll_2 (by decide) ?_
  refine j_istore_n (lv' := [(2, vI (0 : Int32)), (1, vI (0 : Int32)), (0, vR (some o))]) K dX0_thoughtOfAll_3 rfl X.2.2.1 (by decide) rfl ?_
  exact j_sub [2, 1, 0] rfl (w_X0_thoughtOfAll_4 K X _ _ _ _ h)
theorem c_X0_thoughtOfAll {l : Launch} {fu : Nat} {S : Hp} {o : Nat} {res : Int32 × Hp} (h : F_X0_thoughtOfAll fu S o = some res) : Ct l yX0_thoughtOfAll cX0_thoughtOfAll 3 (some .int) (rmd 5 0 0) 0 0 [vR (some o)] S (QI res) :=
  z_entry (by decide +kernel) (Nat.le_of_ble_eq_true rfl) (fun E ad K X => w_X0_thoughtOfAll K X h)

theorem dX0_pass_0 : decode cX0_pass 0 = .ok (.iconst 0, 1) ∧ 0 + 1 = 1 := ⟨by decide +kernel, rfl⟩
theorem dX0_pass_1 : decode cX0_pass 1 = .ok (.istore_n 1, 1) ∧ 1 + 1 = 2 := ⟨by decide +kernel, rfl⟩
theorem dX0_pass_2 : decode cX0_pass 2 = .ok (.iload_n 1, 1) ∧ 2 + 1 = 3 := ⟨by decide +kernel, rfl⟩
theorem dX0_pass_3 : decode cX0_pass 3 = .ok (.aload_n 0, 1) ∧ 3 + 1 = 4 := ⟨by decide +kernel, rfl⟩
theorem dX0_pass_4 : decode cX0_pass 4 = .ok (.getfield 9, 3) ∧ 4 + 3 = 7 := ⟨by decide +kernel, rfl⟩
theorem dX0_pass_7 : decode cX0_pass 7 = .ok (.if_icmp .ge 32, 3) ∧ 7 + 3 = 10 ∧ ((7 : Nat) : Int) + (32) = ((39 : Nat) : Int) := ⟨by decide +kernel, rfl, by decide⟩
theorem dX0_pass_10 : decode cX0_pass 10 = .ok (.aload_n 0, 1) ∧ 10 + 1 = 11 := ⟨by decide +kernel, rfl⟩
theorem dX0_pass_11 : decode cX0_pass 11 = .ok (.iload_n 1, 1) ∧ 11 + 1 = 12 := ⟨by decide +kernel, rfl⟩
theorem dX0_pass_12 : decode cX0_pass 12 = .ok (.invokevirtual 132, 3) := by decide +kernel
theorem dX0_pass_15 : decode cX0_pass 15 = .ok (.aload_n 0, 1) ∧ 15 + 1 = 16 := ⟨by decide +kernel, rfl⟩
theorem dX0_pass_16 : decode cX0_pass 16 = .ok (.getfield 25, 3) ∧ 16 + 3 = 19 := ⟨by decide +kernel, rfl⟩
theorem dX0_pass_19 : decode cX0_pass 19 = .ok (.iload_n 1, 1) ∧ 19 + 1 = 20 := ⟨by decide +kernel, rfl⟩
theorem dX0_pass_20 : decode cX0_pass 20 = .ok (.aload_n 0, 1) ∧ 20 + 1 = 21 := ⟨by decide +kernel, rfl⟩
theorem dX0_pass_21 : decode cX0_pass 21 = .ok (.iload_n 1, 1) ∧ 21 + 1 = 22 := ⟨by decide +kernel, rfl⟩
theorem dX0_pass_22 : decode cX0_pass 22 = .ok (.aload_n 0, 1) ∧ 22 + 1 = 23 := ⟨by decide +kernel, rfl⟩
theorem dX0_pass_23 : decode cX0_pass 23 = .ok (.iload_n 1, 1) ∧ 23 + 1 = 24 := ⟨by decide +kernel, rfl⟩
theorem dX0_pass_24 : decode cX0_pass 24 = .ok (.invokevirtual 118, 3) := by decide +kernel
theorem dX0_pass_27 : decode cX0_pass 27 = .ok (.invokevirtual 139, 3) := by decide +kernel
theorem dX0_pass_30 : decode cX0_pass 30 = .ok (.invokestatic 65, 3) := by decide +kernel
theorem dX0_pass_33 : decode cX0_pass 33 = .ok (.iinc 1 1, 3) ∧ 33 + 3 = 36 := ⟨by decide +kernel, rfl⟩
theorem dX0_pass_36 : decode cX0_pass 36 = .ok (.goto (-34), 3) ∧ ((36 : Nat) : Int) + (-34) = ((2 : Nat) : Int) := ⟨by decide +kernel, by decide⟩
theorem dX0_pass_39 : decode cX0_pass 39 = .ok (.aload_n 0, 1) ∧ 39 + 1 = 40 := ⟨by decide +kernel, rfl⟩
theorem dX0_pass_40 : decode cX0_pass 40 = .ok (.iconst 0, 1) ∧ 40 + 1 = 41 := ⟨by decide +kernel, rfl⟩
theorem dX0_pass_41 : decode cX0_pass 41 = .ok (.putfield 28, 3) ∧ 41 + 3 = 44 := ⟨by decide +kernel, rfl⟩
theorem dX0_pass_44 : decode cX0_pass 44 = .ok (.aload_n 0, 1) ∧ 44 + 1 = 45 := ⟨by decide +kernel, rfl⟩
theorem dX0_pass_45 : decode cX0_pass 45 = .ok (.dup, 1) ∧ 45 + 1 = 46 := ⟨by decide +kernel, rfl⟩
theorem dX0_pass_46 : decode cX0_pass 46 = .ok (.getfield 40, 3) ∧ 46 + 3 = 49 := ⟨by decide +kernel, rfl⟩
theorem dX0_pass_49 : decode cX0_pass 49 = .ok (.iconst 1, 1) ∧ 49 + 1 = 50 := ⟨by decide +kernel, rfl⟩
theorem dX0_pass_50 : decode cX0_pass 50 = .ok (.iadd, 1) ∧ 50 + 1 = 51 := ⟨by decide +kernel, rfl⟩
theorem dX0_pass_51 : decode cX0_pass 51 = .ok (.putfield 40, 3) ∧ 51 + 3 = 54 := ⟨by decide +kernel, rfl⟩
theorem dX0_pass_54 : decode cX0_pass 54 = .ok (.return_, 1) := by decide +kernel
def L_X0_pass_2 (k2 : Hp → Int32 → Option (Hp)) (fu : Nat) (o : Nat) (S : Hp) (x1 : Int32) : Option (Hp) :=
  (gI S (some o) 0 0).bind fun v4 =>
  if v4 ≤ x1 then
    (pI S (some o) 0 5 (0 : Int32)).bind fun S41 =>
    (gI S41 (some o) 0 9).bind fun v46 =>
    (pI S41 (some o) 0 9 (v46 + (1 : Int32))).bind fun S51 =>
    some S51
  else
    (ob S 0 (some o)).bind fun _ =>
    (F_X0_look fu S o x1).bind fun S12 =>
    (gR S12 (some o) 0 4).bind fun v16 =>
    (ob S12 0 (some o)).bind fun _ =>
    b2 (F_X0_beats fu S12 o x1) fun v24 S24 =>
    (ob S24 0 (some o)).bind fun _ =>
    b2 (F_X0_thoughtAt fu S24 o x1 v24) fun v27 S27 =>
    (F_X7_store S27 v16 x1 v27).bind fun S30 =>
    k2 S30 (x1 + (1 : Int32))
set_option maxRecDepth 100000 in
set_option maxHeartbeats 4000000 in
theorem wl_X0_pass_2 {E : Cx} {l : Launch} {res : Hp} {ad : Nat → Nat} {k2 : Hp → Int32 → Option (Hp)} {fu : Nat} {o : Nat} {S : Hp} {x1 : Int32} (K : Kx E cX0_pass RX0 (rmd 5 0 0)) (X : Bx E l yX0_pass 2 none 0 0 ad (QV res)) (hk2 : ∀ (S : Hp) (x1 : Int32), k2 S x1 = some res → J E 0 0 2 [(0, vR (some o)), (1, vI x1)] [] S ad) (h : L_X0_pass_2 k2 fu o S x1 = some res) : J E 0 0 2 [(0, vR (some o)), (1, vI x1)] [] S ad := by
  refine j_iload_n K dX0_pass_2 rfl 1 rfl ?_
  refine j_aload_n K dX0_pass_3 rfl 0 rfl ?_
  obtain ⟨v4, e4, h⟩ := bd h
  refine fgX0_9 K dX0_pass_4 e4 ?_
  refine j_icmp_ge K dX0_pass_7 (fun c7 => ?_) (fun c7 => ?_)
  · replace h := it c7 h
    refine j_aload_n K dX0_pass_39 rfl 0 rfl ?_
    refine j_iconst (v := (0 : Int32)) K dX0_pass_40 (by decide) ?_
    obtain ⟨S41, e41, h⟩ := bd h
    refine fpX0_28 K dX0_pass_41 e41 ?_
    refine j_aload_n K dX0_pass_44 rfl 0 rfl ?_
    refine j_dup K dX0_pass_45 rfl ?_
    obtain ⟨v46, e46, h⟩ := bd h
    refine fgX0_40 K dX0_pass_46 e46 ?_
    refine j_iconst (v := (1 : Int32)) K dX0_pass_49 (by decide) ?_
    refine j_iadd K dX0_pass_50 ?_
    obtain ⟨S51, e51, h⟩ := bd h
    refine fpX0_40 K dX0_pass_51 e51 ?_
    exact j_vret K X dX0_pass_54 h
  · replace h := ie c7 h
    refine j_aload_n K dX0_pass_10 rfl 0 rfl ?_
    refine j_iload_n K dX0_pass_11 rfl 1 rfl ?_
    obtain ⟨w12, ew12, h⟩ := bd h
    have ho12 := obS ew12
    obtain ⟨S12, e12, h⟩ := bd h
    refine j_cV (st := []) K (r_V (vs := [vI x1]) (n := 1) (o := o) K (c_X0_look e12) ho12 (by decide) rfl dX0_pass_12 z570 z530 z531 z2 z532 ⟨zd_X0_look, rfl, rfl, rfl, ⟨Nat.le_of_ble_eq_true rfl, Nat.le_of_ble_eq_true rfl⟩, Nat.le_of_ble_eq_true rfl, Nat.le_of_ble_eq_true rfl, Nat.le_of_ble_eq_true rfl⟩) rfl ?_
    refine j_aload_n K dX0_pass_15 rfl 0 rfl ?_
    obtain ⟨v16, e16, h⟩ := bd h
    refine fgX0_25 K dX0_pass_16 e16 ?_
    refine j_iload_n K dX0_pass_19 rfl 1 rfl ?_
    refine j_aload_n K dX0_pass_20 rfl 0 rfl ?_
    refine j_iload_n K dX0_pass_21 rfl 1 rfl ?_
    refine j_aload_n K dX0_pass_22 rfl 0 rfl ?_
    refine j_iload_n K dX0_pass_23 rfl 1 rfl ?_
    obtain ⟨w24, ew24, h⟩ := bd h
    have ho24 := obS ew24
    obtain ⟨v24, S24, e24, h⟩ := bd2 h
    refine j_cI (st := [vI x1, vR (some o), vI x1, vR v16]) K (r_V (vs := [vI x1]) (n := 1) (o := o) K (c_X0_beats e24) ho24 (by decide) rfl dX0_pass_24 z557 z518 z519 z2 z520 ⟨zd_X0_beats, rfl, rfl, rfl, ⟨Nat.le_of_ble_eq_true rfl, Nat.le_of_ble_eq_true rfl⟩, Nat.le_of_ble_eq_true rfl, Nat.le_of_ble_eq_true rfl, Nat.le_of_ble_eq_true rfl⟩) rfl ?_
    obtain ⟨w27, ew27, h⟩ := bd h
    have ho27 := obS ew27
    obtain ⟨v27, S27, e27, h⟩ := bd2 h
    refine j_cI (st := [vI x1, vR v16]) K (r_V (vs := [vI x1, vI v24]) (n := 2) (o := o) K (c_X0_thoughtAt e27) ho27 (by decide) rfl dX0_pass_27 z580 z545 z546 z2 z547 ⟨zd_X0_thoughtAt, rfl, rfl, rfl, ⟨Nat.le_of_ble_eq_true rfl, Nat.le_of_ble_eq_true rfl⟩, Nat.le_of_ble_eq_true rfl, Nat.le_of_ble_eq_true rfl, Nat.le_of_ble_eq_true rfl⟩) rfl ?_
    obtain ⟨S30, e30, h⟩ := bd h
    refine j_cV (st := []) K (r_SN (vs := [vR v16, vI x1, vI v27]) (n := 3) (host := RX7) K (c_X7_store e30) dX0_pass_30 (List.mem_of_getElem? (i := 10) rfl) z216 z1 z217 ⟨zd_X7_store, rfl, rfl, rfl, ⟨Nat.le_of_ble_eq_true rfl, Nat.le_of_ble_eq_true rfl⟩, Nat.le_of_ble_eq_true rfl, Nat.le_of_ble_eq_true rfl, Nat.le_of_ble_eq_true rfl⟩) rfl ?_
    refine j_iinc (q := 1) (v := (x1 + (1 : Int32))) (lv' := [(1, vI (x1 + (1 : Int32))), (0, vR (some o))]) K dX0_pass_33 rfl rfl X.2.2.1 (by decide) rfl ?_
    refine j_goto K dX0_pass_36 ?_
    exact j_sub [1, 0] rfl (hk2 _ _ h)
def B_X0_pass_2 (fu : Nat) (o : Nat) : Nat → Hp → Int32 → Option (Hp)
  | 0 => fun _ _ => none
  | n + 1 => L_X0_pass_2 (B_X0_pass_2 fu o n) fu o
theorem w_X0_pass_2 {E : Cx} {l : Launch} {res : Hp} {ad : Nat → Nat} {fu : Nat} {o : Nat} (K : Kx E cX0_pass RX0 (rmd 5 0 0)) (X : Bx E l yX0_pass 2 none 0 0 ad (QV res)) : ∀ (n : Nat) (S : Hp) (x1 : Int32), B_X0_pass_2 fu o n S x1 = some res → J E 0 0 2 [(0, vR (some o)), (1, vI x1)] [] S ad := by
  intro n
  induction n with
  | zero =>
    intro S x1 h
    cases h
  | succ n ih =>
    intro S x1 h
    exact wl_X0_pass_2 K X ih h
def F_X0_pass (fu : Nat) (S : Hp) (o : Nat) : Option (Hp) :=
  B_X0_pass_2 fu o fu S (0 : Int32)
set_option maxRecDepth 100000 in
set_option maxHeartbeats 4000000 in
theorem w_X0_pass {E : Cx} {l : Launch} {res : Hp} {ad : Nat → Nat} {fu : Nat} {S : Hp} {o : Nat} (K : Kx E cX0_pass RX0 (rmd 5 0 0)) (X : Bx E l yX0_pass 2 none 0 0 ad (QV res)) (h : F_X0_pass fu S o = some res) : J E 0 0 0 [(0, vR (some o))] [] S ad := by
  refine j_iconst (v := (0 : Int32)) K dX0_pass_0 (by decide) ?_
  refine j_istore_n (lv' := [(1, vI (0 : Int32)), (0, vR (some o))]) K dX0_pass_1 rfl X.2.2.1 (by decide) rfl ?_
  exact j_sub [1, 0] rfl (w_X0_pass_2 K X _ _ _ h)
theorem c_X0_pass {l : Launch} {fu : Nat} {S : Hp} {o : Nat} {res : Hp} (h : F_X0_pass fu S o = some res) : Ct l yX0_pass cX0_pass 2 none (rmd 5 0 0) 0 0 [vR (some o)] S (QV res) :=
  z_entry (by decide +kernel) (Nat.le_of_ble_eq_true rfl) (fun E ad K X => w_X0_pass K X h)

theorem dX4_holds_0 : decode cX4_holds 0 = .ok (.iload_n 1, 1) ∧ 0 + 1 = 1 := ⟨by decide +kernel, rfl⟩
theorem dX4_holds_1 : decode cX4_holds 1 = .ok (.ifCond .lt 21, 3) ∧ 1 + 3 = 4 ∧ ((1 : Nat) : Int) + (21) = ((22 : Nat) : Int) := ⟨by decide +kernel, rfl, by decide⟩
theorem dX4_holds_4 : decode cX4_holds 4 = .ok (.iload_n 2, 1) ∧ 4 + 1 = 5 := ⟨by decide +kernel, rfl⟩
theorem dX4_holds_5 : decode cX4_holds 5 = .ok (.ifCond .lt 17, 3) ∧ 5 + 3 = 8 ∧ ((5 : Nat) : Int) + (17) = ((22 : Nat) : Int) := ⟨by decide +kernel, rfl, by decide⟩
theorem dX4_holds_8 : decode cX4_holds 8 = .ok (.iload_n 2, 1) ∧ 8 + 1 = 9 := ⟨by decide +kernel, rfl⟩
theorem dX4_holds_9 : decode cX4_holds 9 = .ok (.aload_n 0, 1) ∧ 9 + 1 = 10 := ⟨by decide +kernel, rfl⟩
theorem dX4_holds_10 : decode cX4_holds 10 = .ok (.getfield 15, 3) ∧ 10 + 3 = 13 := ⟨by decide +kernel, rfl⟩
theorem dX4_holds_13 : decode cX4_holds 13 = .ok (.iload_n 1, 1) ∧ 13 + 1 = 14 := ⟨by decide +kernel, rfl⟩
theorem dX4_holds_14 : decode cX4_holds 14 = .ok (.isub, 1) ∧ 14 + 1 = 15 := ⟨by decide +kernel, rfl⟩
theorem dX4_holds_15 : decode cX4_holds 15 = .ok (.if_icmp .gt 7, 3) ∧ 15 + 3 = 18 ∧ ((15 : Nat) : Int) + (7) = ((22 : Nat) : Int) := ⟨by decide +kernel, rfl, by decide⟩
theorem dX4_holds_18 : decode cX4_holds 18 = .ok (.iconst 1, 1) ∧ 18 + 1 = 19 := ⟨by decide +kernel, rfl⟩
theorem dX4_holds_19 : decode cX4_holds 19 = .ok (.goto 4, 3) ∧ ((19 : Nat) : Int) + (4) = ((23 : Nat) : Int) := ⟨by decide +kernel, by decide⟩
theorem dX4_holds_22 : decode cX4_holds 22 = .ok (.iconst 0, 1) ∧ 22 + 1 = 23 := ⟨by decide +kernel, rfl⟩
theorem dX4_holds_23 : decode cX4_holds 23 = .ok (.ireturn, 1) := by decide +kernel
def B_X4_holds_23 (o : Nat) (S : Hp) (s0 : Int32) : Option (Int32 × Hp) :=
  zb s0 S
set_option maxRecDepth 100000 in
set_option maxHeartbeats 4000000 in
theorem w_X4_holds_23 {E : Cx} {l : Launch} {res : Int32 × Hp} {ad : Nat → Nat} {o : Nat} {S : Hp} {s0 : Int32} (K : Kx E cX4_holds RX4 (rmd 0 0 0)) (X : Bx E l yX4_holds 3 (some .boolean) 0 0 ad (QI res)) (h : B_X4_holds_23 o S s0 = some res) : J E 0 0 23 [] [vI s0] S ad := by
  exact j_zret K X dX4_holds_23 h
def B_X4_holds_22 (o : Nat) (S : Hp) : Option (Int32 × Hp) :=
  B_X4_holds_23 o S (0 : Int32)
set_option maxRecDepth 100000 in
set_option maxHeartbeats 4000000 in
theorem w_X4_holds_22 {E : Cx} {l : Launch} {res : Int32 × Hp} {ad : Nat → Nat} {o : Nat} {S : Hp} (K : Kx E cX4_holds RX4 (rmd 0 0 0)) (X : Bx E l yX4_holds 3 (some .boolean) 0 0 ad (QI res)) (h : B_X4_holds_22 o S = some res) : J E 0 0 22 [] [] S ad := by
  refine j_iconst (v := (0 : Int32)) K dX4_holds_22 (by decide) ?_
  exact w_X4_holds_23 K X h
def F_X4_holds (S : Hp) (o : Nat) (x1 : Int32) (x2 : Int32) : Option (Int32 × Hp) :=
  if x1 < 0 then
    B_X4_holds_22 o S
  else
    if x2 < 0 then
      B_X4_holds_22 o S
    else
      (gI S (some o) 3 1).bind fun v10 =>
      if (v10 - x1) < x2 then
        B_X4_holds_22 o S
      else
        B_X4_holds_23 o S (1 : Int32)
set_option maxRecDepth 100000 in
set_option maxHeartbeats 4000000 in
theorem w_X4_holds {E : Cx} {l : Launch} {res : Int32 × Hp} {ad : Nat → Nat} {S : Hp} {o : Nat} {x1 : Int32} {x2 : Int32} (K : Kx E cX4_holds RX4 (rmd 0 0 0)) (X : Bx E l yX4_holds 3 (some .boolean) 0 0 ad (QI res)) (h : F_X4_holds S o x1 x2 = some res) : J E 0 0 0 [(0, vR (some o)), (1, vI x1), (2, vI x2)] [] S ad := by
  refine j_iload_n K dX4_holds_0 rfl 1 rfl ?_
  refine j_if_lt K dX4_holds_1 (fun c1 => ?_) (fun c1 => ?_)
  · replace h := it c1 h
    exact j_sub [] rfl (w_X4_holds_22 K X h)
  · replace h := ie c1 h
    refine j_iload_n K dX4_holds_4 rfl 2 rfl ?_
    refine j_if_lt K dX4_holds_5 (fun c5 => ?_) (fun c5 => ?_)
    · replace h := it c5 h
      exact j_sub [] rfl (w_X4_holds_22 K X h)
    · replace h := ie c5 h
      refine j_iload_n K dX4_holds_8 rfl 2 rfl ?_
      refine j_aload_n K dX4_holds_9 rfl 0 rfl ?_
      obtain ⟨v10, e10, h⟩ := bd h
      refine fgX4_15 K dX4_holds_10 e10 ?_
      refine j_iload_n K dX4_holds_13 rfl 1 rfl ?_
      refine j_isub K dX4_holds_14 ?_
      refine j_icmp_gt K dX4_holds_15 (fun c15 => ?_) (fun c15 => ?_)
      · replace h := it c15 h
        exact j_sub [] rfl (w_X4_holds_22 K X h)
      · replace h := ie c15 h
        refine j_iconst (v := (1 : Int32)) K dX4_holds_18 (by decide) ?_
        refine j_goto K dX4_holds_19 ?_
        exact j_sub [] rfl (w_X4_holds_23 K X h)
theorem c_X4_holds {l : Launch} {S : Hp} {o : Nat} {x1 : Int32} {x2 : Int32} {res : Int32 × Hp} (h : F_X4_holds S o x1 x2 = some res) : Ct l yX4_holds cX4_holds 3 (some .boolean) (rmd 0 0 0) 0 0 [vR (some o), vI x1, vI x2] S (QI res) :=
  z_entry (by decide +kernel) (Nat.le_of_ble_eq_true rfl) (fun E ad K X => w_X4_holds K X h)

theorem dX4_read_0 : decode cX4_read 0 = .ok (.aload_n 0, 1) ∧ 0 + 1 = 1 := ⟨by decide +kernel, rfl⟩
theorem dX4_read_1 : decode cX4_read 1 = .ok (.getfield 18, 3) ∧ 1 + 3 = 4 := ⟨by decide +kernel, rfl⟩
theorem dX4_read_4 : decode cX4_read 4 = .ok (.iload_n 1, 1) ∧ 4 + 1 = 5 := ⟨by decide +kernel, rfl⟩
theorem dX4_read_5 : decode cX4_read 5 = .ok (.invokestatic 22, 3) := by decide +kernel
theorem dX4_read_8 : decode cX4_read 8 = .ok (.ireturn, 1) := by decide +kernel
def F_X4_read (S : Hp) (o : Nat) (x1 : Int32) : Option (Int32 × Hp) :=
  (gR S (some o) 3 2).bind fun v1 =>
  b2 (F_X7_at S v1 x1) fun v5 S5 =>
  some (v5, S5)
set_option maxRecDepth 100000 in
set_option maxHeartbeats 4000000 in
theorem w_X4_read {E : Cx} {l : Launch} {res : Int32 × Hp} {ad : Nat → Nat} {S : Hp} {o : Nat} {x1 : Int32} (K : Kx E cX4_read RX4 (rmd 1 0 0)) (X : Bx E l yX4_read 2 (some .int) 0 0 ad (QI res)) (h : F_X4_read S o x1 = some res) : J E 0 0 0 [(0, vR (some o)), (1, vI x1)] [] S ad := by
  refine j_aload_n K dX4_read_0 rfl 0 rfl ?_
  obtain ⟨v1, e1, h⟩ := bd h
  refine fgX4_18 K dX4_read_1 e1 ?_
  refine j_iload_n K dX4_read_4 rfl 1 rfl ?_
  obtain ⟨v5, S5, e5, h⟩ := bd2 h
  refine j_cI (st := []) K (r_SN (vs := [vR v1, vI x1]) (n := 2) (host := RX7) K (c_X7_at e5) dX4_read_5 (List.mem_of_getElem? (i := 15) rfl) z227 z1 z228 ⟨zd_X7_at, rfl, rfl, rfl, ⟨Nat.le_of_ble_eq_true rfl, Nat.le_of_ble_eq_true rfl⟩, Nat.le_of_ble_eq_true rfl, Nat.le_of_ble_eq_true rfl, Nat.le_of_ble_eq_true rfl⟩) rfl ?_
  exact j_iret K X dX4_read_8 h
theorem c_X4_read {l : Launch} {S : Hp} {o : Nat} {x1 : Int32} {res : Int32 × Hp} (h : F_X4_read S o x1 = some res) : Ct l yX4_read cX4_read 2 (some .int) (rmd 1 0 0) 0 0 [vR (some o), vI x1] S (QI res) :=
  z_entry (by decide +kernel) (Nat.le_of_ble_eq_true rfl) (fun E ad K X => w_X4_read K X h)

theorem dX4_agrees_0 : decode cX4_agrees 0 = .ok (.aload_n 0, 1) ∧ 0 + 1 = 1 := ⟨by decide +kernel, rfl⟩
theorem dX4_agrees_1 : decode cX4_agrees 1 = .ok (.iload_n 1, 1) ∧ 1 + 1 = 2 := ⟨by decide +kernel, rfl⟩
theorem dX4_agrees_2 : decode cX4_agrees 2 = .ok (.iconst 1, 1) ∧ 2 + 1 = 3 := ⟨by decide +kernel, rfl⟩
theorem dX4_agrees_3 : decode cX4_agrees 3 = .ok (.invokevirtual 26, 3) := by decide +kernel
theorem dX4_agrees_6 : decode cX4_agrees 6 = .ok (.ifCond .eq 12, 3) ∧ 6 + 3 = 9 ∧ ((6 : Nat) : Int) + (12) = ((18 : Nat) : Int) := ⟨by decide +kernel, rfl, by decide⟩
theorem dX4_agrees_9 : decode cX4_agrees 9 = .ok (.aload_n 0, 1) ∧ 9 + 1 = 10 := ⟨by decide +kernel, rfl⟩
theorem dX4_agrees_10 : decode cX4_agrees 10 = .ok (.iload_n 1, 1) ∧ 10 + 1 = 11 := ⟨by decide +kernel, rfl⟩
theorem dX4_agrees_11 : decode cX4_agrees 11 = .ok (.invokevirtual 30, 3) := by decide +kernel
theorem dX4_agrees_14 : decode cX4_agrees 14 = .ok (.iload_n 2, 1) ∧ 14 + 1 = 15 := ⟨by decide +kernel, rfl⟩
theorem dX4_agrees_15 : decode cX4_agrees 15 = .ok (.if_icmp .ne 7, 3) ∧ 15 + 3 = 18 ∧ ((15 : Nat) : Int) + (7) = ((22 : Nat) : Int) := ⟨by decide +kernel, rfl, by decide⟩
theorem dX4_agrees_18 : decode cX4_agrees 18 = .ok (.iconst 1, 1) ∧ 18 + 1 = 19 := ⟨by decide +kernel, rfl⟩
theorem dX4_agrees_19 : decode cX4_agrees 19 = .ok (.goto 4, 3) ∧ ((19 : Nat) : Int) + (4) = ((23 : Nat) : Int) := ⟨by decide +kernel, by decide⟩
theorem dX4_agrees_22 : decode cX4_agrees 22 = .ok (.iconst 0, 1) ∧ 22 + 1 = 23 := ⟨by decide +kernel, rfl⟩
theorem dX4_agrees_23 : decode cX4_agrees 23 = .ok (.ireturn, 1) := by decide +kernel
def B_X4_agrees_23 (o : Nat) (S : Hp) (s0 : Int32) : Option (Int32 × Hp) :=
  zb s0 S
set_option maxRecDepth 100000 in
set_option maxHeartbeats 4000000 in
theorem w_X4_agrees_23 {E : Cx} {l : Launch} {res : Int32 × Hp} {ad : Nat → Nat} {o : Nat} {S : Hp} {s0 : Int32} (K : Kx E cX4_agrees RX4 (rmd 2 0 0)) (X : Bx E l yX4_agrees 3 (some .boolean) 0 0 ad (QI res)) (h : B_X4_agrees_23 o S s0 = some res) : J E 0 0 23 [] [vI s0] S ad := by
  exact j_zret K X dX4_agrees_23 h
def B_X4_agrees_18 (o : Nat) (S : Hp) : Option (Int32 × Hp) :=
  B_X4_agrees_23 o S (1 : Int32)
set_option maxRecDepth 100000 in
set_option maxHeartbeats 4000000 in
theorem w_X4_agrees_18 {E : Cx} {l : Launch} {res : Int32 × Hp} {ad : Nat → Nat} {o : Nat} {S : Hp} (K : Kx E cX4_agrees RX4 (rmd 2 0 0)) (X : Bx E l yX4_agrees 3 (some .boolean) 0 0 ad (QI res)) (h : B_X4_agrees_18 o S = some res) : J E 0 0 18 [] [] S ad := by
  refine j_iconst (v := (1 : Int32)) K dX4_agrees_18 (by decide) ?_
  refine j_goto K dX4_agrees_19 ?_
  exact w_X4_agrees_23 K X h
def F_X4_agrees (S : Hp) (o : Nat) (x1 : Int32) (x2 : Int32) : Option (Int32 × Hp) :=
  (ob S 3 (some o)).bind fun _ =>
  b2 (F_X4_holds S o x1 (1 : Int32)) fun v3 S3 =>
  if v3 = 0 then
    B_X4_agrees_18 o S3
  else
    (ob S3 3 (some o)).bind fun _ =>
    b2 (F_X4_read S3 o x1) fun v11 S11 =>
    if v11 = x2 then
      B_X4_agrees_18 o S11
    else
      B_X4_agrees_23 o S11 (0 : Int32)
set_option maxRecDepth 100000 in
set_option maxHeartbeats 4000000 in
theorem w_X4_agrees {E : Cx} {l : Launch} {res : Int32 × Hp} {ad : Nat → Nat} {S : Hp} {o : Nat} {x1 : Int32} {x2 : Int32} (K : Kx E cX4_agrees RX4 (rmd 2 0 0)) (X : Bx E l yX4_agrees 3 (some .boolean) 0 0 ad (QI res)) (h : F_X4_agrees S o x1 x2 = some res) : J E 0 0 0 [(0, vR (some o)), (1, vI x1), (2, vI x2)] [] S ad := by
  refine j_aload_n K dX4_agrees_0 rfl 0 rfl ?_
  refine j_iload_n K dX4_agrees_1 rfl 1 rfl ?_
  refine j_iconst (v := (1 : Int32)) K dX4_agrees_2 (by decide) ?_
  obtain ⟨w3, ew3, h⟩ := bd h
  have ho3 := obS ew3
  obtain ⟨v3, S3, e3, h⟩ := bd2 h
  refine j_cI (st := []) K (r_V (vs := [vI x1, vI (1 : Int32)]) (n := 2) (o := o) K (c_X4_holds e3) ho3 (by decide) rfl dX4_agrees_3 z694 z695 z696 z5 z697 ⟨zd_X4_holds, rfl, rfl, rfl, ⟨Nat.le_of_ble_eq_true rfl, Nat.le_of_ble_eq_true rfl⟩, Nat.le_of_ble_eq_true rfl, Nat.le_of_ble_eq_true rfl, Nat.le_of_ble_eq_true rfl⟩) rfl ?_
  refine j_if_eq K dX4_agrees_6 (fun c6 => ?_) (fun c6 => ?_)
  · replace h := it c6 h
    exact j_sub [] rfl (w_X4_agrees_18 K X h)
  · replace h := ie c6 h
    refine j_aload_n K dX4_agrees_9 rfl 0 rfl ?_
    refine j_iload_n K dX4_agrees_10 rfl 1 rfl ?_
    obtain ⟨w11, ew11, h⟩ := bd h
    have ho11 := obS ew11
    obtain ⟨v11, S11, e11, h⟩ := bd2 h
    refine j_cI (st := []) K (r_V (vs := [vI x1]) (n := 1) (o := o) K (c_X4_read e11) ho11 (by decide) rfl dX4_agrees_11 z698 z699 z700 z5 z701 ⟨zd_X4_read, rfl, rfl, rfl, ⟨Nat.le_of_ble_eq_true rfl, Nat.le_of_ble_eq_true rfl⟩, Nat.le_of_ble_eq_true rfl, Nat.le_of_ble_eq_true rfl, Nat.le_of_ble_eq_true rfl⟩) rfl ?_
    refine j_iload_n K dX4_agrees_14 rfl 2 rfl ?_
    refine j_icmp_ne K dX4_agrees_15 (fun c15 => ?_) (fun c15 => ?_)
    · replace h := ie c15 h
      refine j_iconst (v := (0 : Int32)) K dX4_agrees_22 (by decide) ?_
      exact j_sub [] rfl (w_X4_agrees_23 K X h)
    · replace h := it c15 h
      exact j_sub [] rfl (w_X4_agrees_18 K X h)
theorem c_X4_agrees {l : Launch} {S : Hp} {o : Nat} {x1 : Int32} {x2 : Int32} {res : Int32 × Hp} (h : F_X4_agrees S o x1 x2 = some res) : Ct l yX4_agrees cX4_agrees 3 (some .boolean) (rmd 2 0 0) 0 0 [vR (some o), vI x1, vI x2] S (QI res) :=
  z_entry (by decide +kernel) (Nat.le_of_ble_eq_true rfl) (fun E ad K X => w_X4_agrees K X h)

theorem dX0_firstOtherwise_0 : decode cX0_firstOtherwise 0 = .ok (.iconst 0, 1) ∧ 0 + 1 = 1 := ⟨by decide +kernel, rfl⟩
theorem dX0_firstOtherwise_1 : decode cX0_firstOtherwise 1 = .ok (.istore_n 3, 1) ∧ 1 + 1 = 2 := ⟨by decide +kernel, rfl⟩
theorem dX0_firstOtherwise_2 : decode cX0_firstOtherwise 2 = .ok (.iload_n 3, 1) ∧ 2 + 1 = 3 := ⟨by decide +kernel, rfl⟩
theorem dX0_firstOtherwise_3 : decode cX0_firstOtherwise 3 = .ok (.aload_n 0, 1) ∧ 3 + 1 = 4 := ⟨by decide +kernel, rfl⟩
theorem dX0_firstOtherwise_4 : decode cX0_firstOtherwise 4 = .ok (.getfield 9, 3) ∧ 4 + 3 = 7 := ⟨by decide +kernel, rfl⟩
theorem dX0_firstOtherwise_7 : decode cX0_firstOtherwise 7 = .ok (.if_icmp .ge 33, 3) ∧ 7 + 3 = 10 ∧ ((7 : Nat) : Int) + (33) = ((40 : Nat) : Int) := ⟨by decide +kernel, rfl, by decide⟩
theorem dX0_firstOtherwise_10 : decode cX0_firstOtherwise 10 = .ok (.aload_n 1, 1) ∧ 10 + 1 = 11 := ⟨by decide +kernel, rfl⟩
theorem dX0_firstOtherwise_11 : decode cX0_firstOtherwise 11 = .ok (.ifnull 29, 3) ∧ 11 + 3 = 14 ∧ ((11 : Nat) : Int) + (29) = ((40 : Nat) : Int) := ⟨by decide +kernel, rfl, by decide⟩
theorem dX0_firstOtherwise_14 : decode cX0_firstOtherwise 14 = .ok (.iload_n 3, 1) ∧ 14 + 1 = 15 := ⟨by decide +kernel, rfl⟩
theorem dX0_firstOtherwise_15 : decode cX0_firstOtherwise 15 = .ok (.iload_n 2, 1) ∧ 15 + 1 = 16 := ⟨by decide +kernel, rfl⟩
theorem dX0_firstOtherwise_16 : decode cX0_firstOtherwise 16 = .ok (.if_icmp .eq 18, 3) ∧ 16 + 3 = 19 ∧ ((16 : Nat) : Int) + (18) = ((34 : Nat) : Int) := ⟨by decide +kernel, rfl, by decide⟩
theorem dX0_firstOtherwise_19 : decode cX0_firstOtherwise 19 = .ok (.aload_n 1, 1) ∧ 19 + 1 = 20 := ⟨by decide +kernel, rfl⟩
theorem dX0_firstOtherwise_20 : decode cX0_firstOtherwise 20 = .ok (.iload_n 3, 1) ∧ 20 + 1 = 21 := ⟨by decide +kernel, rfl⟩
theorem dX0_firstOtherwise_21 : decode cX0_firstOtherwise 21 = .ok (.aload_n 0, 1) ∧ 21 + 1 = 22 := ⟨by decide +kernel, rfl⟩
theorem dX0_firstOtherwise_22 : decode cX0_firstOtherwise 22 = .ok (.iload_n 3, 1) ∧ 22 + 1 = 23 := ⟨by decide +kernel, rfl⟩
theorem dX0_firstOtherwise_23 : decode cX0_firstOtherwise 23 = .ok (.invokevirtual 118, 3) := by decide +kernel
theorem dX0_firstOtherwise_26 : decode cX0_firstOtherwise 26 = .ok (.invokevirtual 142, 3) := by decide +kernel
theorem dX0_firstOtherwise_29 : decode cX0_firstOtherwise 29 = .ok (.ifCond .ne 5, 3) ∧ 29 + 3 = 32 ∧ ((29 : Nat) : Int) + (5) = ((34 : Nat) : Int) := ⟨by decide +kernel, rfl, by decide⟩
theorem dX0_firstOtherwise_32 : decode cX0_firstOtherwise 32 = .ok (.iload_n 3, 1) ∧ 32 + 1 = 33 := ⟨by decide +kernel, rfl⟩
theorem dX0_firstOtherwise_33 : decode cX0_firstOtherwise 33 = .ok (.ireturn, 1) := by decide +kernel
theorem dX0_firstOtherwise_34 : decode cX0_firstOtherwise 34 = .ok (.iinc 3 1, 3) ∧ 34 + 3 = 37 := ⟨by decide +kernel, rfl⟩
theorem dX0_firstOtherwise_37 : decode cX0_firstOtherwise 37 = .ok (.goto (-35), 3) ∧ ((37 : Nat) : Int) + (-35) = ((2 : Nat) : Int) := ⟨by decide +kernel, by decide⟩
theorem dX0_firstOtherwise_40 : decode cX0_firstOtherwise 40 = .ok (.iconst (-1), 1) ∧ 40 + 1 = 41 := ⟨by decide +kernel, rfl⟩
theorem dX0_firstOtherwise_41 : decode cX0_firstOtherwise 41 = .ok (.ireturn, 1) := by decide +kernel
def B_X0_firstOtherwise_40 (fu : Nat) (o : Nat) (S : Hp) : Option (Int32 × Hp) :=
  some ((-1 : Int32), S)
set_option maxRecDepth 100000 in
set_option maxHeartbeats 4000000 in
theorem w_X0_firstOtherwise_40 {E : Cx} {l : Launch} {res : Int32 × Hp} {ad : Nat → Nat} {fu : Nat} {o : Nat} {S : Hp} (K : Kx E cX0_firstOtherwise RX0 (rmd 5 0 0)) (X : Bx E l yX0_firstOtherwise 4 (some .int) 0 0 ad (QI res)) (h : B_X0_firstOtherwise_40 fu o S = some res) : J E 0 0 40 [] [] S ad := by
  refine j_iconst (v := (-1 : Int32)) K dX0_firstOtherwise_40 (by decide) ?_
  exact j_iret K X dX0_firstOtherwise_41 h
def B_X0_firstOtherwise_34 (k2 : Hp → Int32 → Option (Int32 × Hp)) (fu : Nat) (o : Nat) (S : Hp) (x1 : Option Nat) (x2 : Int32) (x3 : Int32) : Option (Int32 × Hp) :=
  k2 S (x3 + (1 : Int32))
set_option maxRecDepth 100000 in
set_option maxHeartbeats 4000000 in
theorem w_X0_firstOtherwise_34 {E : Cx} {l : Launch} {res : Int32 × Hp} {ad : Nat → Nat} {k2 : Hp → Int32 → Option (Int32 × Hp)} {fu : Nat} {o : Nat} {S : Hp} {x1 : Option Nat} {x2 : Int32} {x3 : Int32} (K : Kx E cX0_firstOtherwise RX0 (rmd 5 0 0)) (X : Bx E l yX0_firstOtherwise 4 (some .int) 0 0 ad (QI res)) (hk2 : ∀ (S : Hp) (x3 : Int32), k2 S x3 = some res → J E 0 0 2 [(0, vR (some o)), (1, vR x1), (2, vI x2), (3, vI x3)] [] S ad) (h : B_X0_firstOtherwise_34 k2 fu o S x1 x2 x3 = some res) : J E 0 0 34 [(0, vR (some o)), (1, vR x1), (2, vI x2), (3, vI x3)] [] S ad := by
  refine j_iinc (q := 3) (v := (x3 + (1 : Int32))) (lv' := [(3, vI (x3 + (1 : Int32))), (0, vR (some o)), (1, vR x1), (2, vI x2)]) K dX0_firstOtherwise_34 rfl rfl X.2.2.1 (by decide) rfl ?_
  refine j_goto K dX0_firstOtherwise_37 ?_
  exact j_sub [1, 2, 3, 0] rfl (hk2 _ _ h)
def L_X0_firstOtherwise_2 (k2 : Hp → Int32 → Option (Int32 × Hp)) (fu : Nat) (o : Nat) (x1 : Option Nat) (x2 : Int32) (S : Hp) (x3 : Int32) : Option (Int32 × Hp) :=
  (gI S (some o) 0 0).bind fun v4 =>
  if v4 ≤ x3 then
    B_X0_firstOtherwise_40 fu o S
  else
    if x1 = none then
      B_X0_firstOtherwise_40 fu o S
    else
      if x3 = x2 then
        B_X0_firstOtherwise_34 k2 fu o S x1 x2 x3
      else
        (ob S 0 (some o)).bind fun _ =>
        b2 (F_X0_beats fu S o x3) fun v23 S23 =>
        (ob S23 3 x1).bind fun o26 =>
        b2 (F_X4_agrees S23 o26 x3 v23) fun v26 S26 =>
        if v26 = 0 then
          some (x3, S26)
        else
          B_X0_firstOtherwise_34 k2 fu o S26 (some o26) x2 x3
set_option maxRecDepth 100000 in
set_option maxHeartbeats 4000000 in
theorem wl_X0_firstOtherwise_2 {E : Cx} {l : Launch} {res : Int32 × Hp} {ad : Nat → Nat} {k2 : Hp → Int32 → Option (Int32 × Hp)} {fu : Nat} {o : Nat} {S : Hp} {x1 : Option Nat} {x2 : Int32} {x3 : Int32} (K : Kx E cX0_firstOtherwise RX0 (rmd 5 0 0)) (X : Bx E l yX0_firstOtherwise 4 (some .int) 0 0 ad (QI res)) (hk2 : ∀ (S : Hp) (x3 : Int32), k2 S x3 = some res → J E 0 0 2 [(0, vR (some o)), (1, vR x1), (2, vI x2), (3, vI x3)] [] S ad) (h : L_X0_firstOtherwise_2 k2 fu o x1 x2 S x3 = some res) : J E 0 0 2 [(0, vR (some o)), (1, vR x1), (2, vI x2), (3, vI x3)] [] S ad := by
  refine j_iload_n K dX0_firstOtherwise_2 rfl 3 rfl ?_
  refine j_aload_n K dX0_firstOtherwise_3 rfl 0 rfl ?_
  obtain ⟨v4, e4, h⟩ := bd h
  refine fgX0_9 K dX0_firstOtherwise_4 e4 ?_
  refine j_icmp_ge K dX0_firstOtherwise_7 (fun c7 => ?_) (fun c7 => ?_)
  · replace h := it c7 h
    exact j_sub [] rfl (w_X0_firstOtherwise_40 K X h)
  · replace h := ie c7 h
    refine j_aload_n K dX0_firstOtherwise_10 rfl 1 rfl ?_
    refine j_ifnull K dX0_firstOtherwise_11 (fun c11 => ?_) (fun c11 => ?_)
    · replace h := it c11 h
      exact j_sub [] rfl (w_X0_firstOtherwise_40 K X h)
    · replace h := ie c11 h
      refine j_iload_n K dX0_firstOtherwise_14 rfl 3 rfl ?_
      refine j_iload_n K dX0_firstOtherwise_15 rfl 2 rfl ?_
      refine j_icmp_eq K dX0_firstOtherwise_16 (fun c16 => ?_) (fun c16 => ?_)
      · replace h := it c16 h
        exact w_X0_firstOtherwise_34 K X hk2 h
      · replace h := ie c16 h
        refine j_aload_n K dX0_firstOtherwise_19 rfl 1 rfl ?_
        refine j_iload_n K dX0_firstOtherwise_20 rfl 3 rfl ?_
        refine j_aload_n K dX0_firstOtherwise_21 rfl 0 rfl ?_
        refine j_iload_n K dX0_firstOtherwise_22 rfl 3 rfl ?_
        obtain ⟨w23, ew23, h⟩ := bd h
        have ho23 := obS ew23
        obtain ⟨v23, S23, e23, h⟩ := bd2 h
        refine j_cI (st := [vI x3, vR x1]) K (r_V (vs := [vI x3]) (n := 1) (o := o) K (c_X0_beats e23) ho23 (by decide) rfl dX0_firstOtherwise_23 z557 z518 z519 z2 z520 ⟨zd_X0_beats, rfl, rfl, rfl, ⟨Nat.le_of_ble_eq_true rfl, Nat.le_of_ble_eq_true rfl⟩, Nat.le_of_ble_eq_true rfl, Nat.le_of_ble_eq_true rfl, Nat.le_of_ble_eq_true rfl⟩) rfl ?_
        obtain ⟨o26, ew26, hz26⟩ := bd h
        obtain ⟨er26, ho26⟩ := ob_some ew26
        subst er26
        have h := hz26
        obtain ⟨v26, S26, e26, h⟩ := bd2 h
        refine j_cI (st := []) K (r_V (vs := [vI x3, vI v23]) (n := 2) (o := o26) K (c_X4_agrees e26) ho26 (by decide) rfl dX0_firstOtherwise_26 z690 z691 z692 z5 z693 ⟨zd_X4_agrees, rfl, rfl, rfl, ⟨Nat.le_of_ble_eq_true rfl, Nat.le_of_ble_eq_true rfl⟩, Nat.le_of_ble_eq_true rfl, Nat.le_of_ble_eq_true rfl, Nat.le_of_ble_eq_true rfl⟩) rfl ?_
        refine j_if_ne K dX0_firstOtherwise_29 (fun c29 => ?_) (fun c29 => ?_)
        · replace h := ie c29 h
          exact w_X0_firstOtherwise_34 K X hk2 h
        · replace h := it c29 h
          refine j_iload_n K dX0_firstOtherwise_32 rfl 3 rfl ?_
          exact j_iret K X dX0_firstOtherwise_33 h
def B_X0_firstOtherwise_2 (fu : Nat) (o : Nat) (x1 : Option Nat) (x2 : Int32) : Nat → Hp → Int32 → Option (Int32 × Hp)
  | 0 => fun _ _ => none
  | n + 1 => L_X0_firstOtherwise_2 (B_X0_firstOtherwise_2 fu o x1 x2 n) fu o x1 x2
theorem w_X0_firstOtherwise_2 {E : Cx} {l : Launch} {res : Int32 × Hp} {ad : Nat → Nat} {fu : Nat} {o : Nat} {x1 : Option Nat} {x2 : Int32} (K : Kx E cX0_firstOtherwise RX0 (rmd 5 0 0)) (X : Bx E l yX0_firstOtherwise 4 (some .int) 0 0 ad (QI res)) : ∀ (n : Nat) (S : Hp) (x3 : Int32), B_X0_firstOtherwise_2 fu o x1 x2 n S x3 = some res → J E 0 0 2 [(0, vR (some o)), (1, vR x1), (2, vI x2), (3, vI x3)] [] S ad := by
  intro n
  induction n with
  | zero =>
    intro S x3 h
    cases h
  | succ n ih =>
    intro S x3 h
    exact wl_X0_firstOtherwise_2 K X ih h
def F_X0_firstOtherwise (fu : Nat) (S : Hp) (o : Nat) (x1 : Option Nat) (x2 : Int32) : Option (Int32 × Hp) :=
  B_X0_firstOtherwise_2 fu o x1 x2 fu S (0 : Int32)
set_option maxRecDepth 100000 in
set_option maxHeartbeats 4000000 in
theorem w_X0_firstOtherwise {E : Cx} {l : Launch} {res : Int32 × Hp} {ad : Nat → Nat} {fu : Nat} {S : Hp} {o : Nat} {x1 : Option Nat} {x2 : Int32} (K : Kx E cX0_firstOtherwise RX0 (rmd 5 0 0)) (X : Bx E l yX0_firstOtherwise 4 (some .int) 0 0 ad (QI res)) (h : F_X0_firstOtherwise fu S o x1 x2 = some res) : J E 0 0 0 [(0, vR (some o)), (1, vR x1), (2, vI x2)] [] S ad := by
  refine j_iconst (v := (0 : Int32)) K dX0_firstOtherwise_0 (by decide) ?_
  refine j_istore_n (lv' := [(3, vI (0 : Int32)), (0, vR (some o)), (1, vR x1), (2, vI x2)]) K dX0_firstOtherwise_1 rfl X.2.2.1 (by decide) rfl ?_
  exact j_sub [1, 2, 3, 0] rfl (w_X0_firstOtherwise_2 K X _ _ _ h)
theorem c_X0_firstOtherwise {l : Launch} {fu : Nat} {S : Hp} {o : Nat} {x1 : Option Nat} {x2 : Int32} {res : Int32 × Hp} (h : F_X0_firstOtherwise fu S o x1 x2 = some res) : Ct l yX0_firstOtherwise cX0_firstOtherwise 4 (some .int) (rmd 5 0 0) 0 0 [vR (some o), vR x1, vI x2] S (QI res) :=
  z_entry (by decide +kernel) (Nat.le_of_ble_eq_true rfl) (fun E ad K X => w_X0_firstOtherwise K X h)

theorem dX1_isOne_0 : decode cX1_isOne 0 = .ok (.iload_n 0, 1) ∧ 0 + 1 = 1 := ⟨by decide +kernel, rfl⟩
theorem dX1_isOne_1 : decode cX1_isOne 1 = .ok (.istore_n 2, 1) ∧ 1 + 1 = 2 := ⟨by decide +kernel, rfl⟩
theorem dX1_isOne_2 : decode cX1_isOne 2 = .ok (.iconst 0, 1) ∧ 2 + 1 = 3 := ⟨by decide +kernel, rfl⟩
theorem dX1_isOne_3 : decode cX1_isOne 3 = .ok (.istore_n 3, 1) ∧ 3 + 1 = 4 := ⟨by decide +kernel, rfl⟩
theorem dX1_isOne_4 : decode cX1_isOne 4 = .ok (.iload_n 3, 1) ∧ 4 + 1 = 5 := ⟨by decide +kernel, rfl⟩
theorem dX1_isOne_5 : decode cX1_isOne 5 = .ok (.bipush 6, 2) ∧ 5 + 2 = 7 := ⟨by decide +kernel, rfl⟩
theorem dX1_isOne_7 : decode cX1_isOne 7 = .ok (.if_icmp .ge 26, 3) ∧ 7 + 3 = 10 ∧ ((7 : Nat) : Int) + (26) = ((33 : Nat) : Int) := ⟨by decide +kernel, rfl, by decide⟩
theorem dX1_isOne_10 : decode cX1_isOne 10 = .ok (.iload_n 2, 1) ∧ 10 + 1 = 11 := ⟨by decide +kernel, rfl⟩
theorem dX1_isOne_11 : decode cX1_isOne 11 = .ok (.iload_n 1, 1) ∧ 11 + 1 = 12 := ⟨by decide +kernel, rfl⟩
theorem dX1_isOne_12 : decode cX1_isOne 12 = .ok (.if_icmp .eq 21, 3) ∧ 12 + 3 = 15 ∧ ((12 : Nat) : Int) + (21) = ((33 : Nat) : Int) := ⟨by decide +kernel, rfl, by decide⟩
theorem dX1_isOne_15 : decode cX1_isOne 15 = .ok (.iload_n 2, 1) ∧ 15 + 1 = 16 := ⟨by decide +kernel, rfl⟩
theorem dX1_isOne_16 : decode cX1_isOne 16 = .ok (.ifCond .lt 17, 3) ∧ 16 + 3 = 19 ∧ ((16 : Nat) : Int) + (17) = ((33 : Nat) : Int) := ⟨by decide +kernel, rfl, by decide⟩
theorem dX1_isOne_19 : decode cX1_isOne 19 = .ok (.getstatic 11, 3) ∧ 19 + 3 = 22 := ⟨by decide +kernel, rfl⟩
theorem dX1_isOne_22 : decode cX1_isOne 22 = .ok (.iload_n 2, 1) ∧ 22 + 1 = 23 := ⟨by decide +kernel, rfl⟩
theorem dX1_isOne_23 : decode cX1_isOne 23 = .ok (.invokestatic 15, 3) := by decide +kernel
theorem dX1_isOne_26 : decode cX1_isOne 26 = .ok (.istore_n 2, 1) ∧ 26 + 1 = 27 := ⟨by decide +kernel, rfl⟩
theorem dX1_isOne_27 : decode cX1_isOne 27 = .ok (.iinc 3 1, 3) ∧ 27 + 3 = 30 := ⟨by decide +kernel, rfl⟩
theorem dX1_isOne_30 : decode cX1_isOne 30 = .ok (.goto (-26), 3) ∧ ((30 : Nat) : Int) + (-26) = ((4 : Nat) : Int) := ⟨by decide +kernel, by decide⟩
theorem dX1_isOne_33 : decode cX1_isOne 33 = .ok (.iload_n 2, 1) ∧ 33 + 1 = 34 := ⟨by decide +kernel, rfl⟩
theorem dX1_isOne_34 : decode cX1_isOne 34 = .ok (.iload_n 1, 1) ∧ 34 + 1 = 35 := ⟨by decide +kernel, rfl⟩
theorem dX1_isOne_35 : decode cX1_isOne 35 = .ok (.if_icmp .ne 7, 3) ∧ 35 + 3 = 38 ∧ ((35 : Nat) : Int) + (7) = ((42 : Nat) : Int) := ⟨by decide +kernel, rfl, by decide⟩
theorem dX1_isOne_38 : decode cX1_isOne 38 = .ok (.iconst 1, 1) ∧ 38 + 1 = 39 := ⟨by decide +kernel, rfl⟩
theorem dX1_isOne_39 : decode cX1_isOne 39 = .ok (.goto 4, 3) ∧ ((39 : Nat) : Int) + (4) = ((43 : Nat) : Int) := ⟨by decide +kernel, by decide⟩
theorem dX1_isOne_42 : decode cX1_isOne 42 = .ok (.iconst 0, 1) ∧ 42 + 1 = 43 := ⟨by decide +kernel, rfl⟩
theorem dX1_isOne_43 : decode cX1_isOne 43 = .ok (.ireturn, 1) := by decide +kernel
def B_X1_isOne_43 (fu : Nat) (S : Hp) (s0 : Int32) : Option (Int32 × Hp) :=
  zb s0 S
set_option maxRecDepth 100000 in
set_option maxHeartbeats 4000000 in
theorem w_X1_isOne_43 {E : Cx} {l : Launch} {res : Int32 × Hp} {ad : Nat → Nat} {fu : Nat} {S : Hp} {s0 : Int32} (K : Kx E cX1_isOne RX1 (rmd 1 0 0)) (X : Bx E l yX1_isOne 4 (some .boolean) 0 0 ad (QI res)) (h : B_X1_isOne_43 fu S s0 = some res) : J E 0 0 43 [] [vI s0] S ad := by
  exact j_zret K X dX1_isOne_43 h
def B_X1_isOne_33 (fu : Nat) (S : Hp) (x1 : Int32) (x2 : Int32) : Option (Int32 × Hp) :=
  if x2 = x1 then
    B_X1_isOne_43 fu S (1 : Int32)
  else
    B_X1_isOne_43 fu S (0 : Int32)
set_option maxRecDepth 100000 in
set_option maxHeartbeats 4000000 in
theorem w_X1_isOne_33 {E : Cx} {l : Launch} {res : Int32 × Hp} {ad : Nat → Nat} {fu : Nat} {S : Hp} {x1 : Int32} {x2 : Int32} (K : Kx E cX1_isOne RX1 (rmd 1 0 0)) (X : Bx E l yX1_isOne 4 (some .boolean) 0 0 ad (QI res)) (h : B_X1_isOne_33 fu S x1 x2 = some res) : J E 0 0 33 [(1, vI x1), (2, vI x2)] [] S ad := by
  refine j_iload_n K dX1_isOne_33 rfl 1 rfl ?_
  refine j_iload_n K dX1_isOne_34 rfl 0 rfl ?_
  refine j_icmp_ne K dX1_isOne_35 (fun c35 => ?_) (fun c35 => ?_)
  · replace h := ie c35 h
    refine j_iconst (v := (0 : Int32)) K dX1_isOne_42 (by decide) ?_
    exact j_sub [] rfl (w_X1_isOne_43 K X h)
  · replace h := it c35 h
    refine j_iconst (v := (1 : Int32)) K dX1_isOne_38 (by decide) ?_
    refine j_goto K dX1_isOne_39 ?_
    exact j_sub [] rfl (w_X1_isOne_43 K X h)
def L_X1_isOne_4 (k4 : Hp → Int32 → Int32 → Option (Int32 × Hp)) (fu : Nat) (x1 : Int32) (S : Hp) (x2 : Int32) (x3 : Int32) : Option (Int32 × Hp) :=
  if (6 : Int32) ≤ x3 then
    B_X1_isOne_33 fu S x1 x2
  else
    if x2 = x1 then
      B_X1_isOne_33 fu S x1 x2
    else
      if x2 < 0 then
        B_X1_isOne_33 fu S x1 x2
      else
        (atK x2).bind fun v23 =>
        k4 S v23 (x3 + (1 : Int32))
set_option maxRecDepth 100000 in
set_option maxHeartbeats 4000000 in
theorem wl_X1_isOne_4 {E : Cx} {l : Launch} {res : Int32 × Hp} {ad : Nat → Nat} {k4 : Hp → Int32 → Int32 → Option (Int32 × Hp)} {fu : Nat} {S : Hp} {x1 : Int32} {x2 : Int32} {x3 : Int32} (K : Kx E cX1_isOne RX1 (rmd 1 0 0)) (X : Bx E l yX1_isOne 4 (some .boolean) 0 0 ad (QI res)) (hk4 : ∀ (S : Hp) (x2 : Int32) (x3 : Int32), k4 S x2 x3 = some res → J E 0 0 4 [(1, vI x1), (2, vI x2), (3, vI x3)] [] S ad) (h : L_X1_isOne_4 k4 fu x1 S x2 x3 = some res) : J E 0 0 4 [(1, vI x1), (2, vI x2), (3, vI x3)] [] S ad := by
  refine j_iload_n K dX1_isOne_4 rfl 2 rfl ?_
  refine j_bipush (v := (6 : Int32)) K dX1_isOne_5 (by decide) ?_
  refine j_icmp_ge K dX1_isOne_7 (fun c7 => ?_) (fun c7 => ?_)
  · replace h := it c7 h
    exact j_sub [0, 1] rfl (w_X1_isOne_33 K X h)
  · replace h := ie c7 h
    refine j_iload_n K dX1_isOne_10 rfl 1 rfl ?_
    refine j_iload_n K dX1_isOne_11 rfl 0 rfl ?_
    refine j_icmp_eq K dX1_isOne_12 (fun c12 => ?_) (fun c12 => ?_)
    · replace h := it c12 h
      exact j_sub [0, 1] rfl (w_X1_isOne_33 K X h)
    · replace h := ie c12 h
      refine j_iload_n K dX1_isOne_15 rfl 1 rfl ?_
      refine j_if_lt K dX1_isOne_16 (fun c16 => ?_) (fun c16 => ?_)
      · replace h := it c16 h
        exact j_sub [0, 1] rfl (w_X1_isOne_33 K X h)
      · replace h := ie c16 h
        refine j_getsK K dX1_isOne_19 rfl z795 ?_
        refine j_iload_n K dX1_isOne_22 rfl 1 rfl ?_
        obtain ⟨v23, e23, h⟩ := bd h
        refine j_cI (st := []) K (r_SN (vs := [vK 14, vI x2]) (n := 2) (host := RX7) K (c_atK e23) dX1_isOne_23 (List.mem_of_getElem? (i := 17) rfl) z227 z1 z228 ⟨zd_X7_at, rfl, rfl, rfl, ⟨Nat.le_of_ble_eq_true rfl, Nat.le_of_ble_eq_true rfl⟩, Nat.le_of_ble_eq_true rfl, Nat.le_of_ble_eq_true rfl, Nat.le_of_ble_eq_true rfl⟩) rfl ?_
        refine j_istore_n (lv' := [(2, vI v23), (1, vI x1), (3, vI x3)]) K dX1_isOne_26 rfl X.2.2.1 (by decide) rfl ?_
        refine j_iinc (q := 2) (v := (x3 + (1 : Int32))) (lv' := [(3, vI (x3 + (1 : Int32))), (2, vI v23), (1, vI x1)]) K dX1_isOne_27 rfl rfl X.2.2.1 (by decide) rfl ?_
        refine j_goto K dX1_isOne_30 ?_
        exact j_sub [2, 1, 0] rfl (hk4 _ _ _ h)
def B_X1_isOne_4 (fu : Nat) (x1 : Int32) : Nat → Hp → Int32 → Int32 → Option (Int32 × Hp)
  | 0 => fun _ _ _ => none
  | n + 1 => L_X1_isOne_4 (B_X1_isOne_4 fu x1 n) fu x1
theorem w_X1_isOne_4 {E : Cx} {l : Launch} {res : Int32 × Hp} {ad : Nat → Nat} {fu : Nat} {x1 : Int32} (K : Kx E cX1_isOne RX1 (rmd 1 0 0)) (X : Bx E l yX1_isOne 4 (some .boolean) 0 0 ad (QI res)) : ∀ (n : Nat) (S : Hp) (x2 : Int32) (x3 : Int32), B_X1_isOne_4 fu x1 n S x2 x3 = some res → J E 0 0 4 [(1, vI x1), (2, vI x2), (3, vI x3)] [] S ad := by
  intro n
  induction n with
  | zero =>
    intro S x2 x3 h
    cases h
  | succ n ih =>
    intro S x2 x3 h
    exact wl_X1_isOne_4 K X ih h
def F_X1_isOne (fu : Nat) (S : Hp) (x0 : Int32) (x1 : Int32) : Option (Int32 × Hp) :=
  B_X1_isOne_4 fu x1 fu S x0 (0 : Int32)
set_option maxRecDepth 100000 in
set_option maxHeartbeats 4000000 in
theorem w_X1_isOne {E : Cx} {l : Launch} {res : Int32 × Hp} {ad : Nat → Nat} {fu : Nat} {S : Hp} {x0 : Int32} {x1 : Int32} (K : Kx E cX1_isOne RX1 (rmd 1 0 0)) (X : Bx E l yX1_isOne 4 (some .boolean) 0 0 ad (QI res)) (h : F_X1_isOne fu S x0 x1 = some res) : J E 0 0 0 [(0, vI x0), (1, vI x1)] [] S ad := by
  refine j_iload_n K dX1_isOne_0 rfl 0 rfl ?_
  refine j_istore_n (lv' := [(2, vI x0), (0, vI x0), (1, vI x1)]) K dX1_isOne_1 rfl X.2.2.1 (by decide) rfl ?_
  refine j_iconst (v := (0 : Int32)) K dX1_isOne_2 (by decide) ?_
  refine j_istore_n (lv' := [(3, vI (0 : Int32)), (2, vI x0), (0, vI x0), (1, vI x1)]) K dX1_isOne_3 rfl X.2.2.1 (by decide) rfl ?_
  exact j_sub [3, 1, 0] rfl (w_X1_isOne_4 K X _ _ _ _ h)
theorem c_X1_isOne {l : Launch} {fu : Nat} {S : Hp} {x0 : Int32} {x1 : Int32} {res : Int32 × Hp} (h : F_X1_isOne fu S x0 x1 = some res) : Ct l yX1_isOne cX1_isOne 4 (some .boolean) (rmd 1 0 0) 0 0 [vI x0, vI x1] S (QI res) :=
  z_entry (by decide +kernel) (Nat.le_of_ble_eq_true rfl) (fun E ad K X => w_X1_isOne K X h)

theorem dX2_init_0 : decode cX2_init 0 = .ok (.aload_n 0, 1) ∧ 0 + 1 = 1 := ⟨by decide +kernel, rfl⟩
theorem dX2_init_1 : decode cX2_init 1 = .ok (.invokespecial 3, 3) ∧ 1 + 3 = 4 := ⟨by decide +kernel, rfl⟩
theorem dX2_init_4 : decode cX2_init 4 = .ok (.aload_n 0, 1) ∧ 4 + 1 = 5 := ⟨by decide +kernel, rfl⟩
theorem dX2_init_5 : decode cX2_init 5 = .ok (.iconst 3, 1) ∧ 5 + 1 = 6 := ⟨by decide +kernel, rfl⟩
theorem dX2_init_6 : decode cX2_init 6 = .ok (.newarray .int, 2) ∧ 6 + 2 = 8 := ⟨by decide +kernel, rfl⟩
theorem dX2_init_8 : decode cX2_init 8 = .ok (.putfield 9, 3) ∧ 8 + 3 = 11 := ⟨by decide +kernel, rfl⟩
theorem dX2_init_11 : decode cX2_init 11 = .ok (.iload_n 2, 1) ∧ 11 + 1 = 12 := ⟨by decide +kernel, rfl⟩
theorem dX2_init_12 : decode cX2_init 12 = .ok (.aload_n 1, 1) ∧ 12 + 1 = 13 := ⟨by decide +kernel, rfl⟩
theorem dX2_init_13 : decode cX2_init 13 = .ok (.arraylength, 1) ∧ 13 + 1 = 14 := ⟨by decide +kernel, rfl⟩
theorem dX2_init_14 : decode cX2_init 14 = .ok (.invokestatic 15, 3) := by decide +kernel
theorem dX2_init_17 : decode cX2_init 17 = .ok (.istore 4, 2) ∧ 17 + 2 = 19 := ⟨by decide +kernel, rfl⟩
theorem dX2_init_19 : decode cX2_init 19 = .ok (.aload_n 0, 1) ∧ 19 + 1 = 20 := ⟨by decide +kernel, rfl⟩
theorem dX2_init_20 : decode cX2_init 20 = .ok (.iload 4, 2) ∧ 20 + 2 = 22 := ⟨by decide +kernel, rfl⟩
theorem dX2_init_22 : decode cX2_init 22 = .ok (.newarray .int, 2) ∧ 22 + 2 = 24 := ⟨by decide +kernel, rfl⟩
theorem dX2_init_24 : decode cX2_init 24 = .ok (.putfield 19, 3) ∧ 24 + 3 = 27 := ⟨by decide +kernel, rfl⟩
theorem dX2_init_27 : decode cX2_init 27 = .ok (.aload_n 0, 1) ∧ 27 + 1 = 28 := ⟨by decide +kernel, rfl⟩
theorem dX2_init_28 : decode cX2_init 28 = .ok (.iload 4, 2) ∧ 28 + 2 = 30 := ⟨by decide +kernel, rfl⟩
theorem dX2_init_30 : decode cX2_init 30 = .ok (.newarray .int, 2) ∧ 30 + 2 = 32 := ⟨by decide +kernel, rfl⟩
theorem dX2_init_32 : decode cX2_init 32 = .ok (.putfield 22, 3) ∧ 32 + 3 = 35 := ⟨by decide +kernel, rfl⟩
theorem dX2_init_35 : decode cX2_init 35 = .ok (.iconst 0, 1) ∧ 35 + 1 = 36 := ⟨by decide +kernel, rfl⟩
theorem dX2_init_36 : decode cX2_init 36 = .ok (.istore 5, 2) ∧ 36 + 2 = 38 := ⟨by decide +kernel, rfl⟩
theorem dX2_init_38 : decode cX2_init 38 = .ok (.iload 5, 2) ∧ 38 + 2 = 40 := ⟨by decide +kernel, rfl⟩
theorem dX2_init_40 : decode cX2_init 40 = .ok (.iload 4, 2) ∧ 40 + 2 = 42 := ⟨by decide +kernel, rfl⟩
theorem dX2_init_42 : decode cX2_init 42 = .ok (.if_icmp .ge 24, 3) ∧ 42 + 3 = 45 ∧ ((42 : Nat) : Int) + (24) = ((66 : Nat) : Int) := ⟨by decide +kernel, rfl, by decide⟩
theorem dX2_init_45 : decode cX2_init 45 = .ok (.aload_n 0, 1) ∧ 45 + 1 = 46 := ⟨by decide +kernel, rfl⟩
theorem dX2_init_46 : decode cX2_init 46 = .ok (.getfield 19, 3) ∧ 46 + 3 = 49 := ⟨by decide +kernel, rfl⟩
theorem dX2_init_49 : decode cX2_init 49 = .ok (.iload 5, 2) ∧ 49 + 2 = 51 := ⟨by decide +kernel, rfl⟩
theorem dX2_init_51 : decode cX2_init 51 = .ok (.aload_n 1, 1) ∧ 51 + 1 = 52 := ⟨by decide +kernel, rfl⟩
theorem dX2_init_52 : decode cX2_init 52 = .ok (.iload 5, 2) ∧ 52 + 2 = 54 := ⟨by decide +kernel, rfl⟩
theorem dX2_init_54 : decode cX2_init 54 = .ok (.invokestatic 25, 3) := by decide +kernel
theorem dX2_init_57 : decode cX2_init 57 = .ok (.invokestatic 29, 3) := by decide +kernel
theorem dX2_init_60 : decode cX2_init 60 = .ok (.iinc 5 1, 3) ∧ 60 + 3 = 63 := ⟨by decide +kernel, rfl⟩
theorem dX2_init_63 : decode cX2_init 63 = .ok (.goto (-25), 3) ∧ ((63 : Nat) : Int) + (-25) = ((38 : Nat) : Int) := ⟨by decide +kernel, by decide⟩
theorem dX2_init_66 : decode cX2_init 66 = .ok (.iconst 0, 1) ∧ 66 + 1 = 67 := ⟨by decide +kernel, rfl⟩
theorem dX2_init_67 : decode cX2_init 67 = .ok (.istore 5, 2) ∧ 67 + 2 = 69 := ⟨by decide +kernel, rfl⟩
theorem dX2_init_69 : decode cX2_init 69 = .ok (.iload 5, 2) ∧ 69 + 2 = 71 := ⟨by decide +kernel, rfl⟩
theorem dX2_init_71 : decode cX2_init 71 = .ok (.iconst 3, 1) ∧ 71 + 1 = 72 := ⟨by decide +kernel, rfl⟩
theorem dX2_init_72 : decode cX2_init 72 = .ok (.if_icmp .ge 24, 3) ∧ 72 + 3 = 75 ∧ ((72 : Nat) : Int) + (24) = ((96 : Nat) : Int) := ⟨by decide +kernel, rfl, by decide⟩
theorem dX2_init_75 : decode cX2_init 75 = .ok (.aload_n 0, 1) ∧ 75 + 1 = 76 := ⟨by decide +kernel, rfl⟩
theorem dX2_init_76 : decode cX2_init 76 = .ok (.getfield 9, 3) ∧ 76 + 3 = 79 := ⟨by decide +kernel, rfl⟩
theorem dX2_init_79 : decode cX2_init 79 = .ok (.iload 5, 2) ∧ 79 + 2 = 81 := ⟨by decide +kernel, rfl⟩
theorem dX2_init_81 : decode cX2_init 81 = .ok (.aload_n 3, 1) ∧ 81 + 1 = 82 := ⟨by decide +kernel, rfl⟩
theorem dX2_init_82 : decode cX2_init 82 = .ok (.iload 5, 2) ∧ 82 + 2 = 84 := ⟨by decide +kernel, rfl⟩
theorem dX2_init_84 : decode cX2_init 84 = .ok (.invokestatic 25, 3) := by decide +kernel
theorem dX2_init_87 : decode cX2_init 87 = .ok (.invokestatic 29, 3) := by decide +kernel
theorem dX2_init_90 : decode cX2_init 90 = .ok (.iinc 5 1, 3) ∧ 90 + 3 = 93 := ⟨by decide +kernel, rfl⟩
theorem dX2_init_93 : decode cX2_init 93 = .ok (.goto (-24), 3) ∧ ((93 : Nat) : Int) + (-24) = ((69 : Nat) : Int) := ⟨by decide +kernel, by decide⟩
theorem dX2_init_96 : decode cX2_init 96 = .ok (.return_, 1) := by decide +kernel
def L_X2_init_69 (k69 : Hp → Int32 → Option (Hp)) (fu : Nat) (n0 : Nat) (o : Nat) (x3 : Option Nat) (S : Hp) (x5 : Int32) : Option (Hp) :=
  if (3 : Int32) ≤ x5 then
    some S
  else
    (gR S (some o) 1 1).bind fun v76 =>
    b2 (F_X7_at S x3 x5) fun v84 S84 =>
    (F_X7_store S84 v76 x5 v84).bind fun S87 =>
    k69 S87 (x5 + (1 : Int32))
set_option maxRecDepth 100000 in
set_option maxHeartbeats 4000000 in
theorem wl_X2_init_69  {E : Cx} {l : Launch} {res : Hp} {ad : Nat → Nat} {ad0 : Nat → Nat} {k69 : Hp → Int32 → Option (Hp)} {fu : Nat} {n0 : Nat} {o : Nat} {S : Hp} {x3 : Option Nat} {x5 : Int32} (K : Kx E cX2_init RX2 (rmd 2 3 323)) (X : Bx E l yX2_init 6 none 3 323 ad0 (QVa n0 res)) (hk69 : ∀ (S : Hp) (x5 : Int32) (ad : Nat → Nat), (∀ k, k < n0 → ad k = ad0 k) → k69 S x5 = some res → J E 3 323 69 [(0, vR (some o)), (3, vR x3), (5, vI x5)] [] S ad) (he : ∀ k, k < n0 → ad k = ad0 k) (h : L_X2_init_69 k69 fu n0 o x3 S x5 = some res) : J E 3 323 69 [(0, vR (some o)), (3, vR x3), (5, vI x5)] [] S ad := by
  refine j_iload K dX2_init_69 2 rfl ?_
  refine j_iconst (v := (3 : Int32)) K dX2_init_71 (by decide) ?_
  refine j_icmp_ge K dX2_init_72 (fun c72 => ?_) (fun c72 => ?_)
  · replace h := it c72 h
    exact j_vretA K X he dX2_init_96 (Nat.le_of_ble_eq_true rfl) (Nat.le_of_ble_eq_true rfl) h
  · replace h := ie c72 h
    refine j_aload_n K dX2_init_75 rfl 0 rfl ?_
    obtain ⟨v76, e76, h⟩ := bd h
    refine fgX2_9 K dX2_init_76 e76 ?_
    refine j_iload K dX2_init_79 2 rfl ?_
    refine j_aload_n K dX2_init_81 rfl 1 rfl ?_
    refine j_iload K dX2_init_82 2 rfl ?_
    obtain ⟨v84, S84, e84, h⟩ := bd2 h
    refine j_cI (st := [vI x5, vR v76]) K (r_SN (vs := [vR x3, vI x5]) (n := 2) (host := RX7) K (c_X7_at e84) dX2_init_84 (List.mem_of_getElem? (i := 8) rfl) z227 z1 z228 ⟨zd_X7_at, rfl, rfl, rfl, ⟨Nat.le_of_ble_eq_true rfl, Nat.le_of_ble_eq_true rfl⟩, Nat.le_of_ble_eq_true rfl, Nat.le_of_ble_eq_true rfl, Nat.le_of_ble_eq_true rfl⟩) rfl ?_
    obtain ⟨S87, e87, h⟩ := bd h
    refine j_cV (st := []) K (r_SN (vs := [vR v76, vI x5, vI v84]) (n := 3) (host := RX7) K (c_X7_store e87) dX2_init_87 (List.mem_of_getElem? (i := 9) rfl) z216 z1 z217 ⟨zd_X7_store, rfl, rfl, rfl, ⟨Nat.le_of_ble_eq_true rfl, Nat.le_of_ble_eq_true rfl⟩, Nat.le_of_ble_eq_true rfl, Nat.le_of_ble_eq_true rfl, Nat.le_of_ble_eq_true rfl⟩) rfl ?_
    refine j_iinc (q := 2) (v := (x5 + (1 : Int32))) (lv' := [(5, vI (x5 + (1 : Int32))), (0, vR (some o)), (3, vR x3)]) K dX2_init_90 rfl rfl X.2.2.1 (by decide) rfl ?_
    refine j_goto K dX2_init_93 ?_
    exact j_sub [1, 2, 0] rfl (hk69 _ _ _ he h)
def B_X2_init_69 (fu : Nat) (n0 : Nat) (o : Nat) (x3 : Option Nat) : Nat → Hp → Int32 → Option (Hp)
  | 0 => fun _ _ => none
  | n + 1 => L_X2_init_69 (B_X2_init_69 fu n0 o x3 n) fu n0 o x3
theorem w_X2_init_69 {E : Cx} {l : Launch} {res : Hp} {ad0 : Nat → Nat} {fu : Nat} {n0 : Nat} {o : Nat} {x3 : Option Nat} (K : Kx E cX2_init RX2 (rmd 2 3 323)) (X : Bx E l yX2_init 6 none 3 323 ad0 (QVa n0 res)) : ∀ (n : Nat) (S : Hp) (x5 : Int32) (ad : Nat → Nat), (∀ k, k < n0 → ad k = ad0 k) → B_X2_init_69 fu n0 o x3 n S x5 = some res → J E 3 323 69 [(0, vR (some o)), (3, vR x3), (5, vI x5)] [] S ad := by
  intro n
  induction n with
  | zero =>
    intro S x5 ad he h
    cases h
  | succ n ih =>
    intro S x5 ad he h
    exact wl_X2_init_69 K X ih he h
def L_X2_init_38 (k38 : Hp → Int32 → Option (Hp)) (fu : Nat) (n0 : Nat) (o : Nat) (x1 : Option Nat) (x3 : Option Nat) (x4 : Int32) (S : Hp) (x5 : Int32) : Option (Hp) :=
  if x4 ≤ x5 then
    B_X2_init_69 fu n0 o x3 fu S (0 : Int32)
  else
    (gR S (some o) 1 0).bind fun v46 =>
    b2 (F_X7_at S x1 x5) fun v54 S54 =>
    (F_X7_store S54 v46 x5 v54).bind fun S57 =>
    k38 S57 (x5 + (1 : Int32))
set_option maxRecDepth 100000 in
set_option maxHeartbeats 4000000 in
theorem wl_X2_init_38  {E : Cx} {l : Launch} {res : Hp} {ad : Nat → Nat} {ad0 : Nat → Nat} {k38 : Hp → Int32 → Option (Hp)} {fu : Nat} {n0 : Nat} {o : Nat} {S : Hp} {x1 : Option Nat} {x3 : Option Nat} {x4 : Int32} {x5 : Int32} (K : Kx E cX2_init RX2 (rmd 2 3 323)) (X : Bx E l yX2_init 6 none 3 323 ad0 (QVa n0 res)) (hk38 : ∀ (S : Hp) (x5 : Int32) (ad : Nat → Nat), (∀ k, k < n0 → ad k = ad0 k) → k38 S x5 = some res → J E 3 323 38 [(0, vR (some o)), (1, vR x1), (3, vR x3), (4, vI x4), (5, vI x5)] [] S ad) (he : ∀ k, k < n0 → ad k = ad0 k) (h : L_X2_init_38 k38 fu n0 o x1 x3 x4 S x5 = some res) : J E 3 323 38 [(0, vR (some o)), (1, vR x1), (3, vR x3), (4, vI x4), (5, vI x5)] [] S ad := by
  refine j_iload K dX2_init_38 4 rfl ?_
  refine j_iload K dX2_init_40 3 rfl ?_
  refine j_icmp_ge K dX2_init_42 (fun c42 => ?_) (fun c42 => ?_)
  · replace h := it c42 h
    refine j_iconst (v := (0 : Int32)) K dX2_init_66 (by decide) ?_
    refine j_istore (lv' := [(5, vI (0 : Int32)), (0, vR (some o)), (1, vR x1), (3, vR x3), (4, vI x4)]) K dX2_init_67 X.2.2.1 (by decide) rfl ?_
    exact j_sub [1, 3, 0] rfl (w_X2_init_69 K X _ _ _ _ he h)
  · replace h := ie c42 h
    refine j_aload_n K dX2_init_45 rfl 0 rfl ?_
    obtain ⟨v46, e46, h⟩ := bd h
    refine fgX2_19 K dX2_init_46 e46 ?_
    refine j_iload K dX2_init_49 4 rfl ?_
    refine j_aload_n K dX2_init_51 rfl 1 rfl ?_
    refine j_iload K dX2_init_52 4 rfl ?_
    obtain ⟨v54, S54, e54, h⟩ := bd2 h
    refine j_cI (st := [vI x5, vR v46]) K (r_SN (vs := [vR x1, vI x5]) (n := 2) (host := RX7) K (c_X7_at e54) dX2_init_54 (List.mem_of_getElem? (i := 8) rfl) z227 z1 z228 ⟨zd_X7_at, rfl, rfl, rfl, ⟨Nat.le_of_ble_eq_true rfl, Nat.le_of_ble_eq_true rfl⟩, Nat.le_of_ble_eq_true rfl, Nat.le_of_ble_eq_true rfl, Nat.le_of_ble_eq_true rfl⟩) rfl ?_
    obtain ⟨S57, e57, h⟩ := bd h
    refine j_cV (st := []) K (r_SN (vs := [vR v46, vI x5, vI v54]) (n := 3) (host := RX7) K (c_X7_store e57) dX2_init_57 (List.mem_of_getElem? (i := 9) rfl) z216 z1 z217 ⟨zd_X7_store, rfl, rfl, rfl, ⟨Nat.le_of_ble_eq_true rfl, Nat.le_of_ble_eq_true rfl⟩, Nat.le_of_ble_eq_true rfl, Nat.le_of_ble_eq_true rfl, Nat.le_of_ble_eq_true rfl⟩) rfl ?_
    refine j_iinc (q := 4) (v := (x5 + (1 : Int32))) (lv' := [(5, vI (x5 + (1 : Int32))), (0, vR (some o)), (1, vR x1), (3, vR x3), (4, vI x4)]) K dX2_init_60 rfl rfl X.2.2.1 (by decide) rfl ?_
    refine j_goto K dX2_init_63 ?_
    exact j_sub [1, 2, 3, 4, 0] rfl (hk38 _ _ _ he h)
def B_X2_init_38 (fu : Nat) (n0 : Nat) (o : Nat) (x1 : Option Nat) (x3 : Option Nat) (x4 : Int32) : Nat → Hp → Int32 → Option (Hp)
  | 0 => fun _ _ => none
  | n + 1 => L_X2_init_38 (B_X2_init_38 fu n0 o x1 x3 x4 n) fu n0 o x1 x3 x4
theorem w_X2_init_38 {E : Cx} {l : Launch} {res : Hp} {ad0 : Nat → Nat} {fu : Nat} {n0 : Nat} {o : Nat} {x1 : Option Nat} {x3 : Option Nat} {x4 : Int32} (K : Kx E cX2_init RX2 (rmd 2 3 323)) (X : Bx E l yX2_init 6 none 3 323 ad0 (QVa n0 res)) : ∀ (n : Nat) (S : Hp) (x5 : Int32) (ad : Nat → Nat), (∀ k, k < n0 → ad k = ad0 k) → B_X2_init_38 fu n0 o x1 x3 x4 n S x5 = some res → J E 3 323 38 [(0, vR (some o)), (1, vR x1), (3, vR x3), (4, vI x4), (5, vI x5)] [] S ad := by
  intro n
  induction n with
  | zero =>
    intro S x5 ad he h
    cases h
  | succ n ih =>
    intro S x5 ad he h
    exact wl_X2_init_38 K X ih he h
def F_X2_init (fu : Nat) (S : Hp) (o : Nat) (x1 : Option Nat) (x2 : Int32) (x3 : Option Nat) : Option (Hp) :=
  (chn S.1 S [(some o), x1, x3, (some o)]).bind fun _ =>
  (nA S 3 (3 : Int32)).bind fun S6 =>
  (pR S6 (some o) 1 1 (some S.1)).bind fun S8 =>
  (aL S8 x1 7).bind fun v13 =>
  b2 (F_X7_bounded S8 x2 v13) fun v14 S14 =>
  (chn S.1 S14 [(some o), x1, x3, (some o)]).bind fun _ =>
  (nA S14 160 v14).bind fun S22 =>
  (pR S22 (some o) 1 0 (some S14.1)).bind fun S24 =>
  (chn S.1 S24 [(some o), x1, x3, (some o)]).bind fun _ =>
  (nA S24 160 v14).bind fun S30 =>
  (pR S30 (some o) 1 2 (some S24.1)).bind fun S32 =>
  B_X2_init_38 fu S.1 o x1 x3 v14 fu S32 (0 : Int32)
set_option maxRecDepth 100000 in
set_option maxHeartbeats 4000000 in
theorem w_X2_init {E : Cx} {l : Launch} {res : Hp} {ad : Nat → Nat} {fu : Nat} {S : Hp} {o : Nat} {x1 : Option Nat} {x2 : Int32} {x3 : Option Nat} (K : Kx E cX2_init RX2 (rmd 2 3 323)) (X : Bx E l yX2_init 6 none 3 323 ad (QVa S.1 res)) (h : F_X2_init fu S o x1 x2 x3 = some res) : J E 0 0 0 [(0, vR (some o)), (1, vR x1), (2, vI x2), (3, vR x3)] [] S ad := by
  have he : ∀ k, k < S.1 → ad k = ad k := fun _ _ => rfl
  refine j_aload_n K dX2_init_0 rfl 0 rfl ?_
  refine j_oinit K dX2_init_1 z341 z23 z24 (Nat.le_of_ble_eq_true rfl) (Nat.le_of_ble_eq_true rfl) ?_
  refine j_aload_n K dX2_init_4 rfl 0 rfl ?_
  refine j_iconst (v := (3 : Int32)) K dX2_init_5 (by decide) ?_
  obtain ⟨u6, e6, h⟩ := bd h
  obtain ⟨S6, g6, h⟩ := bd h
  refine j_nA (M := 3) K dX2_init_6 z88 (by decide) ⟨Nat.le_of_ble_eq_true rfl, Nat.le_of_ble_eq_true rfl⟩ rfl e6 g6 (fun ad6 a6 => ?_)
  have he6 := heX e6 a6 he
  obtain ⟨S8, e8, h⟩ := bd h
  refine fpX2_9 X.2.2.2.1 K dX2_init_8 e8 ?_
  refine j_iload_n K dX2_init_11 rfl 2 rfl ?_
  refine j_aload_n K dX2_init_12 rfl 1 rfl ?_
  obtain ⟨v13, e13, h⟩ := bd h
  refine j_aL K (by decide) dX2_init_13 e13 ?_
  obtain ⟨v14, S14, e14, h⟩ := bd2 h
  refine j_cI (st := []) K (r_SN (vs := [vI x2, vI v13]) (n := 2) (host := RX7) K (c_X7_bounded e14) dX2_init_14 (List.mem_of_getElem? (i := 7) rfl) z343 z1 z344 ⟨zd_X7_bounded, rfl, rfl, rfl, ⟨Nat.le_of_ble_eq_true rfl, Nat.le_of_ble_eq_true rfl⟩, Nat.le_of_ble_eq_true rfl, Nat.le_of_ble_eq_true rfl, Nat.le_of_ble_eq_true rfl⟩) rfl ?_
  refine j_istore (lv' := [(4, vI v14), (0, vR (some o)), (1, vR x1), (2, vI x2), (3, vR x3)]) K dX2_init_17 X.2.2.1 (by decide) rfl ?_
  refine j_aload_n K dX2_init_19 rfl 1 rfl ?_
  refine j_iload K dX2_init_20 0 rfl ?_
  obtain ⟨u22, e22, h⟩ := bd h
  obtain ⟨S22, g22, h⟩ := bd h
  refine j_nA (M := 160) K dX2_init_22 z88 (by decide) ⟨Nat.le_of_ble_eq_true rfl, Nat.le_of_ble_eq_true rfl⟩ rfl e22 g22 (fun ad22 a22 => ?_)
  have he22 := heX e22 a22 he6
  obtain ⟨S24, e24, h⟩ := bd h
  refine fpX2_19 X.2.2.2.1 K dX2_init_24 e24 ?_
  refine j_aload_n K dX2_init_27 rfl 1 rfl ?_
  refine j_iload K dX2_init_28 0 rfl ?_
  obtain ⟨u30, e30, h⟩ := bd h
  obtain ⟨S30, g30, h⟩ := bd h
  refine j_nA (M := 160) K dX2_init_30 z88 (by decide) ⟨Nat.le_of_ble_eq_true rfl, Nat.le_of_ble_eq_true rfl⟩ rfl e30 g30 (fun ad30 a30 => ?_)
  have he30 := heX e30 a30 he22
  obtain ⟨S32, e32, h⟩ := bd h
  refine fpX2_22 X.2.2.2.1 K dX2_init_32 e32 ?_
  refine j_iconst (v := (0 : Int32)) K dX2_init_35 (by decide) ?_
  refine j_istore (lv' := [(5, vI (0 : Int32)), (4, vI v14), (0, vR (some o)), (1, vR x1), (2, vI x2), (3, vR x3)]) K dX2_init_36 X.2.2.1 (by decide) rfl ?_
  exact j_sub [2, 3, 5, 1, 0] rfl (w_X2_init_38 K X _ _ _ _ he30 h)
theorem c_X2_init {l : Launch} {fu : Nat} {S : Hp} {o : Nat} {x1 : Option Nat} {x2 : Int32} {x3 : Option Nat} {res : Hp} (h : F_X2_init fu S o x1 x2 x3 = some res) : Ct l yX2_init cX2_init 6 none (rmd 2 3 323) 3 323 [vR (some o), vR x1, vI x2, vR x3] S (QVa S.1 res) :=
  z_entry (by decide +kernel) (Nat.le_of_ble_eq_true rfl) (fun E ad K X => w_X2_init K X h)
