theorem dX8_wrong_0 : decode cX8_wrong 0 = .ok (.iconst 1, 1) ∧ 0 + 1 = 1 := ⟨by decide +kernel, rfl⟩
theorem dX8_wrong_1 : decode cX8_wrong 1 = .ok (.aload_n 0, 1) ∧ 1 + 1 = 2 := ⟨by decide +kernel, rfl⟩
theorem dX8_wrong_2 : decode cX8_wrong 2 = .ok (.getfield 84, 3) ∧ 2 + 3 = 5 := ⟨by decide +kernel, rfl⟩
theorem dX8_wrong_5 : decode cX8_wrong 5 = .ok (.ishl, 1) ∧ 5 + 1 = 6 := ⟨by decide +kernel, rfl⟩
theorem dX8_wrong_6 : decode cX8_wrong 6 = .ok (.iconst 1, 1) ∧ 6 + 1 = 7 := ⟨by decide +kernel, rfl⟩
theorem dX8_wrong_7 : decode cX8_wrong 7 = .ok (.isub, 1) ∧ 7 + 1 = 8 := ⟨by decide +kernel, rfl⟩
theorem dX8_wrong_8 : decode cX8_wrong 8 = .ok (.istore 4, 2) ∧ 8 + 2 = 10 := ⟨by decide +kernel, rfl⟩
theorem dX8_wrong_10 : decode cX8_wrong 10 = .ok (.iload_n 1, 1) ∧ 10 + 1 = 11 := ⟨by decide +kernel, rfl⟩
theorem dX8_wrong_11 : decode cX8_wrong 11 = .ok (.iconst 1, 1) ∧ 11 + 1 = 12 := ⟨by decide +kernel, rfl⟩
theorem dX8_wrong_12 : decode cX8_wrong 12 = .ok (.iload 4, 2) ∧ 12 + 2 = 14 := ⟨by decide +kernel, rfl⟩
theorem dX8_wrong_14 : decode cX8_wrong 14 = .ok (.invokestatic 87, 3) := by decide +kernel
theorem dX8_wrong_17 : decode cX8_wrong 17 = .ok (.ifCond .eq 29, 3) ∧ 17 + 3 = 20 ∧ ((17 : Nat) : Int) + (29) = ((46 : Nat) : Int) := ⟨by decide +kernel, rfl, by decide⟩
theorem dX8_wrong_20 : decode cX8_wrong 20 = .ok (.iload_n 2, 1) ∧ 20 + 1 = 21 := ⟨by decide +kernel, rfl⟩
theorem dX8_wrong_21 : decode cX8_wrong 21 = .ok (.iconst 1, 1) ∧ 21 + 1 = 22 := ⟨by decide +kernel, rfl⟩
theorem dX8_wrong_22 : decode cX8_wrong 22 = .ok (.bipush 9, 2) ∧ 22 + 2 = 24 := ⟨by decide +kernel, rfl⟩
theorem dX8_wrong_24 : decode cX8_wrong 24 = .ok (.invokestatic 87, 3) := by decide +kernel
theorem dX8_wrong_27 : decode cX8_wrong 27 = .ok (.ifCond .eq 19, 3) ∧ 27 + 3 = 30 ∧ ((27 : Nat) : Int) + (19) = ((46 : Nat) : Int) := ⟨by decide +kernel, rfl, by decide⟩
theorem dX8_wrong_30 : decode cX8_wrong 30 = .ok (.iload_n 3, 1) ∧ 30 + 1 = 31 := ⟨by decide +kernel, rfl⟩
theorem dX8_wrong_31 : decode cX8_wrong 31 = .ok (.iconst 0, 1) ∧ 31 + 1 = 32 := ⟨by decide +kernel, rfl⟩
theorem dX8_wrong_32 : decode cX8_wrong 32 = .ok (.iload 4, 2) ∧ 32 + 2 = 34 := ⟨by decide +kernel, rfl⟩
theorem dX8_wrong_34 : decode cX8_wrong 34 = .ok (.invokestatic 87, 3) := by decide +kernel
theorem dX8_wrong_37 : decode cX8_wrong 37 = .ok (.ifCond .eq 9, 3) ∧ 37 + 3 = 40 ∧ ((37 : Nat) : Int) + (9) = ((46 : Nat) : Int) := ⟨by decide +kernel, rfl, by decide⟩
theorem dX8_wrong_40 : decode cX8_wrong 40 = .ok (.iload_n 1, 1) ∧ 40 + 1 = 41 := ⟨by decide +kernel, rfl⟩
theorem dX8_wrong_41 : decode cX8_wrong 41 = .ok (.iload_n 3, 1) ∧ 41 + 1 = 42 := ⟨by decide +kernel, rfl⟩
theorem dX8_wrong_42 : decode cX8_wrong 42 = .ok (.iand, 1) ∧ 42 + 1 = 43 := ⟨by decide +kernel, rfl⟩
theorem dX8_wrong_43 : decode cX8_wrong 43 = .ok (.ifCond .eq 6, 3) ∧ 43 + 3 = 46 ∧ ((43 : Nat) : Int) + (6) = ((49 : Nat) : Int) := ⟨by decide +kernel, rfl, by decide⟩
theorem dX8_wrong_46 : decode cX8_wrong 46 = .ok (.bipush (-2), 2) ∧ 46 + 2 = 48 := ⟨by decide +kernel, rfl⟩
theorem dX8_wrong_48 : decode cX8_wrong 48 = .ok (.ireturn, 1) := by decide +kernel
theorem dX8_wrong_49 : decode cX8_wrong 49 = .ok (.aload_n 0, 1) ∧ 49 + 1 = 50 := ⟨by decide +kernel, rfl⟩
theorem dX8_wrong_50 : decode cX8_wrong 50 = .ok (.getfield 91, 3) ∧ 50 + 3 = 53 := ⟨by decide +kernel, rfl⟩
theorem dX8_wrong_53 : decode cX8_wrong 53 = .ok (.bipush 10, 2) ∧ 53 + 2 = 55 := ⟨by decide +kernel, rfl⟩
theorem dX8_wrong_55 : decode cX8_wrong 55 = .ok (.if_icmp .ne 6, 3) ∧ 55 + 3 = 58 ∧ ((55 : Nat) : Int) + (6) = ((61 : Nat) : Int) := ⟨by decide +kernel, rfl, by decide⟩
theorem dX8_wrong_58 : decode cX8_wrong 58 = .ok (.bipush (-4), 2) ∧ 58 + 2 = 60 := ⟨by decide +kernel, rfl⟩
theorem dX8_wrong_60 : decode cX8_wrong 60 = .ok (.ireturn, 1) := by decide +kernel
theorem dX8_wrong_61 : decode cX8_wrong 61 = .ok (.aload_n 0, 1) ∧ 61 + 1 = 62 := ⟨by decide +kernel, rfl⟩
theorem dX8_wrong_62 : decode cX8_wrong 62 = .ok (.getfield 19, 3) ∧ 62 + 3 = 65 := ⟨by decide +kernel, rfl⟩
theorem dX8_wrong_65 : decode cX8_wrong 65 = .ok (.aload_n 0, 1) ∧ 65 + 1 = 66 := ⟨by decide +kernel, rfl⟩
theorem dX8_wrong_66 : decode cX8_wrong 66 = .ok (.getfield 91, 3) ∧ 66 + 3 = 69 := ⟨by decide +kernel, rfl⟩
theorem dX8_wrong_69 : decode cX8_wrong 69 = .ok (.iload_n 1, 1) ∧ 69 + 1 = 70 := ⟨by decide +kernel, rfl⟩
theorem dX8_wrong_70 : decode cX8_wrong 70 = .ok (.iastore, 1) ∧ 70 + 1 = 71 := ⟨by decide +kernel, rfl⟩
theorem dX8_wrong_71 : decode cX8_wrong 71 = .ok (.aload_n 0, 1) ∧ 71 + 1 = 72 := ⟨by decide +kernel, rfl⟩
theorem dX8_wrong_72 : decode cX8_wrong 72 = .ok (.getfield 22, 3) ∧ 72 + 3 = 75 := ⟨by decide +kernel, rfl⟩
theorem dX8_wrong_75 : decode cX8_wrong 75 = .ok (.aload_n 0, 1) ∧ 75 + 1 = 76 := ⟨by decide +kernel, rfl⟩
theorem dX8_wrong_76 : decode cX8_wrong 76 = .ok (.getfield 91, 3) ∧ 76 + 3 = 79 := ⟨by decide +kernel, rfl⟩
theorem dX8_wrong_79 : decode cX8_wrong 79 = .ok (.iload_n 2, 1) ∧ 79 + 1 = 80 := ⟨by decide +kernel, rfl⟩
theorem dX8_wrong_80 : decode cX8_wrong 80 = .ok (.iastore, 1) ∧ 80 + 1 = 81 := ⟨by decide +kernel, rfl⟩
theorem dX8_wrong_81 : decode cX8_wrong 81 = .ok (.aload_n 0, 1) ∧ 81 + 1 = 82 := ⟨by decide +kernel, rfl⟩
theorem dX8_wrong_82 : decode cX8_wrong 82 = .ok (.getfield 25, 3) ∧ 82 + 3 = 85 := ⟨by decide +kernel, rfl⟩
theorem dX8_wrong_85 : decode cX8_wrong 85 = .ok (.aload_n 0, 1) ∧ 85 + 1 = 86 := ⟨by decide +kernel, rfl⟩
theorem dX8_wrong_86 : decode cX8_wrong 86 = .ok (.getfield 91, 3) ∧ 86 + 3 = 89 := ⟨by decide +kernel, rfl⟩
theorem dX8_wrong_89 : decode cX8_wrong 89 = .ok (.iload_n 3, 1) ∧ 89 + 1 = 90 := ⟨by decide +kernel, rfl⟩
theorem dX8_wrong_90 : decode cX8_wrong 90 = .ok (.iastore, 1) ∧ 90 + 1 = 91 := ⟨by decide +kernel, rfl⟩
theorem dX8_wrong_91 : decode cX8_wrong 91 = .ok (.aload_n 0, 1) ∧ 91 + 1 = 92 := ⟨by decide +kernel, rfl⟩
theorem dX8_wrong_92 : decode cX8_wrong 92 = .ok (.dup, 1) ∧ 92 + 1 = 93 := ⟨by decide +kernel, rfl⟩
theorem dX8_wrong_93 : decode cX8_wrong 93 = .ok (.getfield 91, 3) ∧ 93 + 3 = 96 := ⟨by decide +kernel, rfl⟩
theorem dX8_wrong_96 : decode cX8_wrong 96 = .ok (.iconst 1, 1) ∧ 96 + 1 = 97 := ⟨by decide +kernel, rfl⟩
theorem dX8_wrong_97 : decode cX8_wrong 97 = .ok (.iadd, 1) ∧ 97 + 1 = 98 := ⟨by decide +kernel, rfl⟩
theorem dX8_wrong_98 : decode cX8_wrong 98 = .ok (.putfield 91, 3) ∧ 98 + 3 = 101 := ⟨by decide +kernel, rfl⟩
theorem dX8_wrong_101 : decode cX8_wrong 101 = .ok (.aload_n 0, 1) ∧ 101 + 1 = 102 := ⟨by decide +kernel, rfl⟩
theorem dX8_wrong_102 : decode cX8_wrong 102 = .ok (.getfield 91, 3) ∧ 102 + 3 = 105 := ⟨by decide +kernel, rfl⟩
theorem dX8_wrong_105 : decode cX8_wrong 105 = .ok (.iconst 1, 1) ∧ 105 + 1 = 106 := ⟨by decide +kernel, rfl⟩
theorem dX8_wrong_106 : decode cX8_wrong 106 = .ok (.isub, 1) ∧ 106 + 1 = 107 := ⟨by decide +kernel, rfl⟩
theorem dX8_wrong_107 : decode cX8_wrong 107 = .ok (.ireturn, 1) := by decide +kernel
def B_X8_wrong_46 (o : Nat) (S : Hp) : Option (Int32 × Hp) :=
  some ((-2 : Int32), S)
set_option maxRecDepth 100000 in
set_option maxHeartbeats 4000000 in
theorem w_X8_wrong_46 {E : Cx} {l : Launch} {res : Int32 × Hp} {ad : Nat → Nat} {o : Nat} {S : Hp} (K : Kx E cX8_wrong RX8 (rmd 1 0 0)) (X : Bx E l yX8_wrong 5 (some .int) 0 0 ad (QI res)) (h : B_X8_wrong_46 o S = some res) : J E 0 0 46 [] [] S ad := by
  refine j_bipush (v := (-2 : Int32)) K dX8_wrong_46 (by decide) ?_
  exact j_iret K X dX8_wrong_48 h
def F_X8_wrong (S : Hp) (o : Nat) (x1 : Int32) (x2 : Int32) (x3 : Int32) : Option (Int32 × Hp) :=
  (gI S (some o) 6 0).bind fun v2 =>
  b2 (F_X8_in S x1 (1 : Int32) (((1 : Int32) <<< (v2 &&& 31)) - (1 : Int32))) fun v14 S14 =>
  if v14 = 0 then
    B_X8_wrong_46 o S14
  else
    b2 (F_X8_in S14 x2 (1 : Int32) (9 : Int32)) fun v24 S24 =>
    if v24 = 0 then
      B_X8_wrong_46 o S24
    else
      b2 (F_X8_in S24 x3 (0 : Int32) (((1 : Int32) <<< (v2 &&& 31)) - (1 : Int32))) fun v34 S34 =>
      if v34 = 0 then
        B_X8_wrong_46 o S34
      else
        if (x1 &&& x3) = 0 then
          (gI S34 (some o) 6 7).bind fun v50 =>
          if v50 = (10 : Int32) then
            some ((-4 : Int32), S34)
          else
            (gR S34 (some o) 6 4).bind fun v62 =>
            (gI S34 (some o) 6 7).bind fun v66 =>
            (aP S34 v62 v66 x1).bind fun S70 =>
            (gR S70 (some o) 6 5).bind fun v72 =>
            (gI S70 (some o) 6 7).bind fun v76 =>
            (aP S70 v72 v76 x2).bind fun S80 =>
            (gR S80 (some o) 6 6).bind fun v82 =>
            (gI S80 (some o) 6 7).bind fun v86 =>
            (aP S80 v82 v86 x3).bind fun S90 =>
            (gI S90 (some o) 6 7).bind fun v93 =>
            (pI S90 (some o) 6 7 (v93 + (1 : Int32))).bind fun S98 =>
            (gI S98 (some o) 6 7).bind fun v102 =>
            some ((v102 - (1 : Int32)), S98)
        else
          B_X8_wrong_46 o S34
set_option maxRecDepth 100000 in
set_option maxHeartbeats 4000000 in
theorem w_X8_wrong {E : Cx} {l : Launch} {res : Int32 × Hp} {ad : Nat → Nat} {S : Hp} {o : Nat} {x1 : Int32} {x2 : Int32} {x3 : Int32} (K : Kx E cX8_wrong RX8 (rmd 1 0 0)) (X : Bx E l yX8_wrong 5 (some .int) 0 0 ad (QI res)) (h : F_X8_wrong S o x1 x2 x3 = some res) : J E 0 0 0 [(0, vR (some o)), (1, vI x1), (2, vI x2), (3, vI x3)] [] S ad := by
  refine j_iconst (v := (1 : Int32)) K dX8_wrong_0 (by decide) ?_
  refine j_aload_n K dX8_wrong_1 rfl 0 rfl ?_
  obtain ⟨v2, e2, h⟩ := bd h
  refine fgX8_84 K dX8_wrong_2 e2 ?_
  refine j_ishl K dX8_wrong_5 ?_
  refine j_iconst (v := (1 : Int32)) K dX8_wrong_6 (by decide) ?_
  refine j_isub K dX8_wrong_7 ?_
  refine j_istore (lv' := [(4, vI (((1 : Int32) <<< (v2 &&& 31)) - (1 : Int32))), (0, vR (some o)), (1, vI x1), (2, vI x2), (3, vI x3)]) K dX8_wrong_8 X.2.2.1 (by decide) rfl ?_
  refine j_iload_n K dX8_wrong_10 rfl 2 rfl ?_
  refine j_iconst (v := (1 : Int32)) K dX8_wrong_11 (by decide) ?_
  refine j_iload K dX8_wrong_12 0 rfl ?_
  obtain ⟨v14, S14, e14, h⟩ := bd2 h
  refine j_cI (st := []) K (r_S (vs := [vI x1, vI (1 : Int32), vI (((1 : Int32) <<< (v2 &&& 31)) - (1 : Int32))]) (n := 3) K (c_X8_in e14) dX8_wrong_14 z812 z813 z13 z814 ⟨zd_X8_in, rfl, rfl, rfl, ⟨Nat.le_of_ble_eq_true rfl, Nat.le_of_ble_eq_true rfl⟩, Nat.le_of_ble_eq_true rfl, Nat.le_of_ble_eq_true rfl, Nat.le_of_ble_eq_true rfl⟩) rfl ?_
  refine j_if_eq K dX8_wrong_17 (fun c17 => ?_) (fun c17 => ?_)
  · replace h := it c17 h
    exact j_sub [] rfl (w_X8_wrong_46 K X h)
  · replace h := ie c17 h
    refine j_iload_n K dX8_wrong_20 rfl 3 rfl ?_
    refine j_iconst (v := (1 : Int32)) K dX8_wrong_21 (by decide) ?_
    refine j_bipush (v := (9 : Int32)) K dX8_wrong_22 (by decide) ?_
    obtain ⟨v24, S24, e24, h⟩ := bd2 h
    refine j_cI (st := []) K (r_S (vs := [vI x2, vI (1 : Int32), vI (9 : Int32)]) (n := 3) K (c_X8_in e24) dX8_wrong_24 z812 z813 z13 z814 ⟨zd_X8_in, rfl, rfl, rfl, ⟨Nat.le_of_ble_eq_true rfl, Nat.le_of_ble_eq_true rfl⟩, Nat.le_of_ble_eq_true rfl, Nat.le_of_ble_eq_true rfl, Nat.le_of_ble_eq_true rfl⟩) rfl ?_
    refine j_if_eq K dX8_wrong_27 (fun c27 => ?_) (fun c27 => ?_)
    · replace h := it c27 h
      exact j_sub [] rfl (w_X8_wrong_46 K X h)
    · replace h := ie c27 h
      refine j_iload_n K dX8_wrong_30 rfl 4 rfl ?_
      refine j_iconst (v := (0 : Int32)) K dX8_wrong_31 (by decide) ?_
      refine j_iload K dX8_wrong_32 0 rfl ?_
      obtain ⟨v34, S34, e34, h⟩ := bd2 h
      refine j_cI (st := []) K (r_S (vs := [vI x3, vI (0 : Int32), vI (((1 : Int32) <<< (v2 &&& 31)) - (1 : Int32))]) (n := 3) K (c_X8_in e34) dX8_wrong_34 z812 z813 z13 z814 ⟨zd_X8_in, rfl, rfl, rfl, ⟨Nat.le_of_ble_eq_true rfl, Nat.le_of_ble_eq_true rfl⟩, Nat.le_of_ble_eq_true rfl, Nat.le_of_ble_eq_true rfl, Nat.le_of_ble_eq_true rfl⟩) rfl ?_
      refine j_if_eq K dX8_wrong_37 (fun c37 => ?_) (fun c37 => ?_)
      · replace h := it c37 h
        exact j_sub [] rfl (w_X8_wrong_46 K X h)
      · replace h := ie c37 h
        refine j_iload_n K dX8_wrong_40 rfl 2 rfl ?_
        refine j_iload_n K dX8_wrong_41 rfl 4 rfl ?_
        refine j_iand K dX8_wrong_42 ?_
        refine j_if_eq K dX8_wrong_43 (fun c43 => ?_) (fun c43 => ?_)
        · replace h := it c43 h
          refine j_aload_n K dX8_wrong_49 rfl 1 rfl ?_
          obtain ⟨v50, e50, h⟩ := bd h
          refine fgX8_91 K dX8_wrong_50 e50 ?_
          refine j_bipush (v := (10 : Int32)) K dX8_wrong_53 (by decide) ?_
          refine j_icmp_ne K dX8_wrong_55 (fun c55 => ?_) (fun c55 => ?_)
          · replace h := ie c55 h
            refine j_aload_n K dX8_wrong_61 rfl 1 rfl ?_
            obtain ⟨v62, e62, h⟩ := bd h
            refine fgX8_19 K dX8_wrong_62 e62 ?_
            refine j_aload_n K dX8_wrong_65 rfl 1 rfl ?_
            obtain ⟨v66, e66, h⟩ := bd h
            refine fgX8_91 K dX8_wrong_66 e66 ?_
            refine j_iload_n K dX8_wrong_69 rfl 2 rfl ?_
            obtain ⟨S70, e70, h⟩ := bd h
            refine j_aP K dX8_wrong_70 e70 ?_
            refine j_aload_n K dX8_wrong_71 rfl 1 rfl ?_
            obtain ⟨v72, e72, h⟩ := bd h
            refine fgX8_22 K dX8_wrong_72 e72 ?_
            refine j_aload_n K dX8_wrong_75 rfl 1 rfl ?_
            obtain ⟨v76, e76, h⟩ := bd h
            refine fgX8_91 K dX8_wrong_76 e76 ?_
            refine j_iload_n K dX8_wrong_79 rfl 3 rfl ?_
            obtain ⟨S80, e80, h⟩ := bd h
            refine j_aP K dX8_wrong_80 e80 ?_
            refine j_aload_n K dX8_wrong_81 rfl 1 rfl ?_
            obtain ⟨v82, e82, h⟩ := bd h
            refine fgX8_25 K dX8_wrong_82 e82 ?_
            refine j_aload_n K dX8_wrong_85 rfl 1 rfl ?_
            obtain ⟨v86, e86, h⟩ := bd h
            refine fgX8_91 K dX8_wrong_86 e86 ?_
            refine j_iload_n K dX8_wrong_89 rfl 4 rfl ?_
            obtain ⟨S90, e90, h⟩ := bd h
            refine j_aP K dX8_wrong_90 e90 ?_
            refine j_aload_n K dX8_wrong_91 rfl 1 rfl ?_
            refine j_dup K dX8_wrong_92 rfl ?_
            obtain ⟨v93, e93, h⟩ := bd h
            refine fgX8_91 K dX8_wrong_93 e93 ?_
            refine j_iconst (v := (1 : Int32)) K dX8_wrong_96 (by decide) ?_
            refine j_iadd K dX8_wrong_97 ?_
            obtain ⟨S98, e98, h⟩ := bd h
            refine fpX8_91 K dX8_wrong_98 e98 ?_
            refine j_aload_n K dX8_wrong_101 rfl 1 rfl ?_
            obtain ⟨v102, e102, h⟩ := bd h
            refine fgX8_91 K dX8_wrong_102 e102 ?_
            refine j_iconst (v := (1 : Int32)) K dX8_wrong_105 (by decide) ?_
            refine j_isub K dX8_wrong_106 ?_
            exact j_iret K X dX8_wrong_107 h
          · replace h := it c55 h
            refine j_bipush (v := (-4 : Int32)) K dX8_wrong_58 (by decide) ?_
            exact j_iret K X dX8_wrong_60 h
        · replace h := ie c43 h
          exact j_sub [] rfl (w_X8_wrong_46 K X h)
theorem c_X8_wrong {l : Launch} {S : Hp} {o : Nat} {x1 : Int32} {x2 : Int32} {x3 : Int32} {res : Int32 × Hp} (h : F_X8_wrong S o x1 x2 x3 = some res) : Ct l yX8_wrong cX8_wrong 5 (some .int) (rmd 1 0 0) 0 0 [vR (some o), vI x1, vI x2, vI x3] S (QI res) :=
  z_entry (by decide +kernel) (Nat.le_of_ble_eq_true rfl) (fun E ad K X => w_X8_wrong K X h)

theorem dX8_deed_0 : decode cX8_deed 0 = .ok (.aload_n 0, 1) ∧ 0 + 1 = 1 := ⟨by decide +kernel, rfl⟩
theorem dX8_deed_1 : decode cX8_deed 1 = .ok (.iload_n 1, 1) ∧ 1 + 1 = 2 := ⟨by decide +kernel, rfl⟩
theorem dX8_deed_2 : decode cX8_deed 2 = .ok (.invokevirtual 103, 3) := by decide +kernel
theorem dX8_deed_5 : decode cX8_deed 5 = .ok (.ifCond .ne 6, 3) ∧ 5 + 3 = 8 ∧ ((5 : Nat) : Int) + (6) = ((11 : Nat) : Int) := ⟨by decide +kernel, rfl, by decide⟩
theorem dX8_deed_8 : decode cX8_deed 8 = .ok (.bipush (-5), 2) ∧ 8 + 2 = 10 := ⟨by decide +kernel, rfl⟩
theorem dX8_deed_10 : decode cX8_deed 10 = .ok (.ireturn, 1) := by decide +kernel
theorem dX8_deed_11 : decode cX8_deed 11 = .ok (.iload_n 2, 1) ∧ 11 + 1 = 12 := ⟨by decide +kernel, rfl⟩
theorem dX8_deed_12 : decode cX8_deed 12 = .ok (.ifCond .ne 12, 3) ∧ 12 + 3 = 15 ∧ ((12 : Nat) : Int) + (12) = ((24 : Nat) : Int) := ⟨by decide +kernel, rfl, by decide⟩
theorem dX8_deed_15 : decode cX8_deed 15 = .ok (.aload_n 0, 1) ∧ 15 + 1 = 16 := ⟨by decide +kernel, rfl⟩
theorem dX8_deed_16 : decode cX8_deed 16 = .ok (.getfield 19, 3) ∧ 16 + 3 = 19 := ⟨by decide +kernel, rfl⟩
theorem dX8_deed_19 : decode cX8_deed 19 = .ok (.iload_n 1, 1) ∧ 19 + 1 = 20 := ⟨by decide +kernel, rfl⟩
theorem dX8_deed_20 : decode cX8_deed 20 = .ok (.iaload, 1) ∧ 20 + 1 = 21 := ⟨by decide +kernel, rfl⟩
theorem dX8_deed_21 : decode cX8_deed 21 = .ok (.goto 33, 3) ∧ ((21 : Nat) : Int) + (33) = ((54 : Nat) : Int) := ⟨by decide +kernel, by decide⟩
theorem dX8_deed_24 : decode cX8_deed 24 = .ok (.iload_n 2, 1) ∧ 24 + 1 = 25 := ⟨by decide +kernel, rfl⟩
theorem dX8_deed_25 : decode cX8_deed 25 = .ok (.iconst 1, 1) ∧ 25 + 1 = 26 := ⟨by decide +kernel, rfl⟩
theorem dX8_deed_26 : decode cX8_deed 26 = .ok (.if_icmp .ne 12, 3) ∧ 26 + 3 = 29 ∧ ((26 : Nat) : Int) + (12) = ((38 : Nat) : Int) := ⟨by decide +kernel, rfl, by decide⟩
theorem dX8_deed_29 : decode cX8_deed 29 = .ok (.aload_n 0, 1) ∧ 29 + 1 = 30 := ⟨by decide +kernel, rfl⟩
theorem dX8_deed_30 : decode cX8_deed 30 = .ok (.getfield 22, 3) ∧ 30 + 3 = 33 := ⟨by decide +kernel, rfl⟩
theorem dX8_deed_33 : decode cX8_deed 33 = .ok (.iload_n 1, 1) ∧ 33 + 1 = 34 := ⟨by decide +kernel, rfl⟩
theorem dX8_deed_34 : decode cX8_deed 34 = .ok (.iaload, 1) ∧ 34 + 1 = 35 := ⟨by decide +kernel, rfl⟩
theorem dX8_deed_35 : decode cX8_deed 35 = .ok (.goto 19, 3) ∧ ((35 : Nat) : Int) + (19) = ((54 : Nat) : Int) := ⟨by decide +kernel, by decide⟩
theorem dX8_deed_38 : decode cX8_deed 38 = .ok (.iload_n 2, 1) ∧ 38 + 1 = 39 := ⟨by decide +kernel, rfl⟩
theorem dX8_deed_39 : decode cX8_deed 39 = .ok (.iconst 2, 1) ∧ 39 + 1 = 40 := ⟨by decide +kernel, rfl⟩
theorem dX8_deed_40 : decode cX8_deed 40 = .ok (.if_icmp .ne 12, 3) ∧ 40 + 3 = 43 ∧ ((40 : Nat) : Int) + (12) = ((52 : Nat) : Int) := ⟨by decide +kernel, rfl, by decide⟩
theorem dX8_deed_43 : decode cX8_deed 43 = .ok (.aload_n 0, 1) ∧ 43 + 1 = 44 := ⟨by decide +kernel, rfl⟩
theorem dX8_deed_44 : decode cX8_deed 44 = .ok (.getfield 25, 3) ∧ 44 + 3 = 47 := ⟨by decide +kernel, rfl⟩
theorem dX8_deed_47 : decode cX8_deed 47 = .ok (.iload_n 1, 1) ∧ 47 + 1 = 48 := ⟨by decide +kernel, rfl⟩
theorem dX8_deed_48 : decode cX8_deed 48 = .ok (.iaload, 1) ∧ 48 + 1 = 49 := ⟨by decide +kernel, rfl⟩
theorem dX8_deed_49 : decode cX8_deed 49 = .ok (.goto 5, 3) ∧ ((49 : Nat) : Int) + (5) = ((54 : Nat) : Int) := ⟨by decide +kernel, by decide⟩
theorem dX8_deed_52 : decode cX8_deed 52 = .ok (.bipush (-7), 2) ∧ 52 + 2 = 54 := ⟨by decide +kernel, rfl⟩
theorem dX8_deed_54 : decode cX8_deed 54 = .ok (.ireturn, 1) := by decide +kernel
def B_X8_deed_54 (o : Nat) (S : Hp) (s0 : Int32) : Option (Int32 × Hp) :=
  some (s0, S)
set_option maxRecDepth 100000 in
set_option maxHeartbeats 4000000 in
theorem w_X8_deed_54 {E : Cx} {l : Launch} {res : Int32 × Hp} {ad : Nat → Nat} {o : Nat} {S : Hp} {s0 : Int32} (K : Kx E cX8_deed RX8 (rmd 2 0 0)) (X : Bx E l yX8_deed 3 (some .int) 0 0 ad (QI res)) (h : B_X8_deed_54 o S s0 = some res) : J E 0 0 54 [] [vI s0] S ad := by
  exact j_iret K X dX8_deed_54 h
def F_X8_deed (S : Hp) (o : Nat) (x1 : Int32) (x2 : Int32) : Option (Int32 × Hp) :=
  (ob S 6 (some o)).bind fun _ =>
  b2 (F_X8_isWrong S o x1) fun v2 S2 =>
  if v2 = 0 then
    some ((-5 : Int32), S2)
  else
    if x2 = 0 then
      (gR S2 (some o) 6 4).bind fun v16 =>
      (aG S2 v16 x1).bind fun v20 =>
      B_X8_deed_54 o S2 v20
    else
      if x2 = (1 : Int32) then
        (gR S2 (some o) 6 5).bind fun v30 =>
        (aG S2 v30 x1).bind fun v34 =>
        B_X8_deed_54 o S2 v34
      else
        if x2 = (2 : Int32) then
          (gR S2 (some o) 6 6).bind fun v44 =>
          (aG S2 v44 x1).bind fun v48 =>
          B_X8_deed_54 o S2 v48
        else
          B_X8_deed_54 o S2 (-7 : Int32)
set_option maxRecDepth 100000 in
set_option maxHeartbeats 4000000 in
theorem w_X8_deed {E : Cx} {l : Launch} {res : Int32 × Hp} {ad : Nat → Nat} {S : Hp} {o : Nat} {x1 : Int32} {x2 : Int32} (K : Kx E cX8_deed RX8 (rmd 2 0 0)) (X : Bx E l yX8_deed 3 (some .int) 0 0 ad (QI res)) (h : F_X8_deed S o x1 x2 = some res) : J E 0 0 0 [(0, vR (some o)), (1, vI x1), (2, vI x2)] [] S ad := by
  refine j_aload_n K dX8_deed_0 rfl 0 rfl ?_
  refine j_iload_n K dX8_deed_1 rfl 1 rfl ?_
  obtain ⟨w2, ew2, h⟩ := bd h
  have ho2 := obS ew2
  obtain ⟨v2, S2, e2, h⟩ := bd2 h
  refine j_cI (st := []) K (r_V (vs := [vI x1]) (n := 1) (o := o) K (c_X8_isWrong e2) ho2 (by decide) rfl dX8_deed_2 z975 z977 zs33 z13 z978 ⟨zd_X8_isWrong, rfl, rfl, rfl, ⟨Nat.le_of_ble_eq_true rfl, Nat.le_of_ble_eq_true rfl⟩, Nat.le_of_ble_eq_true rfl, Nat.le_of_ble_eq_true rfl, Nat.le_of_ble_eq_true rfl⟩) rfl ?_
  refine j_if_ne K dX8_deed_5 (fun c5 => ?_) (fun c5 => ?_)
  · replace h := ie c5 h
    refine j_iload_n K dX8_deed_11 rfl 2 rfl ?_
    refine j_if_ne K dX8_deed_12 (fun c12 => ?_) (fun c12 => ?_)
    · replace h := ie c12 h
      refine j_iload_n K dX8_deed_24 rfl 2 rfl ?_
      refine j_iconst (v := (1 : Int32)) K dX8_deed_25 (by decide) ?_
      refine j_icmp_ne K dX8_deed_26 (fun c26 => ?_) (fun c26 => ?_)
      · replace h := ie c26 h
        refine j_iload_n K dX8_deed_38 rfl 2 rfl ?_
        refine j_iconst (v := (2 : Int32)) K dX8_deed_39 (by decide) ?_
        refine j_icmp_ne K dX8_deed_40 (fun c40 => ?_) (fun c40 => ?_)
        · replace h := ie c40 h
          refine j_bipush (v := (-7 : Int32)) K dX8_deed_52 (by decide) ?_
          exact j_sub [] rfl (w_X8_deed_54 K X h)
        · replace h := it c40 h
          refine j_aload_n K dX8_deed_43 rfl 0 rfl ?_
          obtain ⟨v44, e44, h⟩ := bd h
          refine fgX8_25 K dX8_deed_44 e44 ?_
          refine j_iload_n K dX8_deed_47 rfl 1 rfl ?_
          obtain ⟨v48, e48, h⟩ := bd h
          refine j_aG K dX8_deed_48 e48 ?_
          refine j_goto K dX8_deed_49 ?_
          exact j_sub [] rfl (w_X8_deed_54 K X h)
      · replace h := it c26 h
        refine j_aload_n K dX8_deed_29 rfl 0 rfl ?_
        obtain ⟨v30, e30, h⟩ := bd h
        refine fgX8_22 K dX8_deed_30 e30 ?_
        refine j_iload_n K dX8_deed_33 rfl 1 rfl ?_
        obtain ⟨v34, e34, h⟩ := bd h
        refine j_aG K dX8_deed_34 e34 ?_
        refine j_goto K dX8_deed_35 ?_
        exact j_sub [] rfl (w_X8_deed_54 K X h)
    · replace h := it c12 h
      refine j_aload_n K dX8_deed_15 rfl 0 rfl ?_
      obtain ⟨v16, e16, h⟩ := bd h
      refine fgX8_19 K dX8_deed_16 e16 ?_
      refine j_iload_n K dX8_deed_19 rfl 1 rfl ?_
      obtain ⟨v20, e20, h⟩ := bd h
      refine j_aG K dX8_deed_20 e20 ?_
      refine j_goto K dX8_deed_21 ?_
      exact j_sub [] rfl (w_X8_deed_54 K X h)
  · replace h := it c5 h
    refine j_bipush (v := (-5 : Int32)) K dX8_deed_8 (by decide) ?_
    exact j_iret K X dX8_deed_10 h
theorem c_X8_deed {l : Launch} {S : Hp} {o : Nat} {x1 : Int32} {x2 : Int32} {res : Int32 × Hp} (h : F_X8_deed S o x1 x2 = some res) : Ct l yX8_deed cX8_deed 3 (some .int) (rmd 2 0 0) 0 0 [vR (some o), vI x1, vI x2] S (QI res) :=
  z_entry (by decide +kernel) (Nat.le_of_ble_eq_true rfl) (fun E ad K X => w_X8_deed K X h)

theorem dX8_drops_0 : decode cX8_drops 0 = .ok (.iload_n 1, 1) ∧ 0 + 1 = 1 := ⟨by decide +kernel, rfl⟩
theorem dX8_drops_1 : decode cX8_drops 1 = .ok (.istore_n 2, 1) ∧ 1 + 1 = 2 := ⟨by decide +kernel, rfl⟩
theorem dX8_drops_2 : decode cX8_drops 2 = .ok (.iload_n 2, 1) ∧ 2 + 1 = 3 := ⟨by decide +kernel, rfl⟩
theorem dX8_drops_3 : decode cX8_drops 3 = .ok (.iconst 1, 1) ∧ 3 + 1 = 4 := ⟨by decide +kernel, rfl⟩
theorem dX8_drops_4 : decode cX8_drops 4 = .ok (.iadd, 1) ∧ 4 + 1 = 5 := ⟨by decide +kernel, rfl⟩
theorem dX8_drops_5 : decode cX8_drops 5 = .ok (.aload_n 0, 1) ∧ 5 + 1 = 6 := ⟨by decide +kernel, rfl⟩
theorem dX8_drops_6 : decode cX8_drops 6 = .ok (.getfield 91, 3) ∧ 6 + 3 = 9 := ⟨by decide +kernel, rfl⟩
theorem dX8_drops_9 : decode cX8_drops 9 = .ok (.if_icmp .ge 51, 3) ∧ 9 + 3 = 12 ∧ ((9 : Nat) : Int) + (51) = ((60 : Nat) : Int) := ⟨by decide +kernel, rfl, by decide⟩
theorem dX8_drops_12 : decode cX8_drops 12 = .ok (.aload_n 0, 1) ∧ 12 + 1 = 13 := ⟨by decide +kernel, rfl⟩
theorem dX8_drops_13 : decode cX8_drops 13 = .ok (.getfield 19, 3) ∧ 13 + 3 = 16 := ⟨by decide +kernel, rfl⟩
theorem dX8_drops_16 : decode cX8_drops 16 = .ok (.iload_n 2, 1) ∧ 16 + 1 = 17 := ⟨by decide +kernel, rfl⟩
theorem dX8_drops_17 : decode cX8_drops 17 = .ok (.aload_n 0, 1) ∧ 17 + 1 = 18 := ⟨by decide +kernel, rfl⟩
theorem dX8_drops_18 : decode cX8_drops 18 = .ok (.getfield 19, 3) ∧ 18 + 3 = 21 := ⟨by decide +kernel, rfl⟩
theorem dX8_drops_21 : decode cX8_drops 21 = .ok (.iload_n 2, 1) ∧ 21 + 1 = 22 := ⟨by decide +kernel, rfl⟩
theorem dX8_drops_22 : decode cX8_drops 22 = .ok (.iconst 1, 1) ∧ 22 + 1 = 23 := ⟨by decide +kernel, rfl⟩
theorem dX8_drops_23 : decode cX8_drops 23 = .ok (.iadd, 1) ∧ 23 + 1 = 24 := ⟨by decide +kernel, rfl⟩
theorem dX8_drops_24 : decode cX8_drops 24 = .ok (.iaload, 1) ∧ 24 + 1 = 25 := ⟨by decide +kernel, rfl⟩
theorem dX8_drops_25 : decode cX8_drops 25 = .ok (.iastore, 1) ∧ 25 + 1 = 26 := ⟨by decide +kernel, rfl⟩
theorem dX8_drops_26 : decode cX8_drops 26 = .ok (.aload_n 0, 1) ∧ 26 + 1 = 27 := ⟨by decide +kernel, rfl⟩
theorem dX8_drops_27 : decode cX8_drops 27 = .ok (.getfield 22, 3) ∧ 27 + 3 = 30 := ⟨by decide +kernel, rfl⟩
theorem dX8_drops_30 : decode cX8_drops 30 = .ok (.iload_n 2, 1) ∧ 30 + 1 = 31 := ⟨by decide +kernel, rfl⟩
theorem dX8_drops_31 : decode cX8_drops 31 = .ok (.aload_n 0, 1) ∧ 31 + 1 = 32 := ⟨by decide +kernel, rfl⟩
theorem dX8_drops_32 : decode cX8_drops 32 = .ok (.getfield 22, 3) ∧ 32 + 3 = 35 := ⟨by decide +kernel, rfl⟩
theorem dX8_drops_35 : decode cX8_drops 35 = .ok (.iload_n 2, 1) ∧ 35 + 1 = 36 := ⟨by decide +kernel, rfl⟩
theorem dX8_drops_36 : decode cX8_drops 36 = .ok (.iconst 1, 1) ∧ 36 + 1 = 37 := ⟨by decide +kernel, rfl⟩
theorem dX8_drops_37 : decode cX8_drops 37 = .ok (.iadd, 1) ∧ 37 + 1 = 38 := ⟨by decide +kernel, rfl⟩
theorem dX8_drops_38 : decode cX8_drops 38 = .ok (.iaload, 1) ∧ 38 + 1 = 39 := ⟨by decide +kernel, rfl⟩
theorem dX8_drops_39 : decode cX8_drops 39 = .ok (.iastore, 1) ∧ 39 + 1 = 40 := ⟨by decide +kernel, rfl⟩
theorem dX8_drops_40 : decode cX8_drops 40 = .ok (.aload_n 0, 1) ∧ 40 + 1 = 41 := ⟨by decide +kernel, rfl⟩
theorem dX8_drops_41 : decode cX8_drops 41 = .ok (.getfield 25, 3) ∧ 41 + 3 = 44 := ⟨by decide +kernel, rfl⟩
theorem dX8_drops_44 : decode cX8_drops 44 = .ok (.iload_n 2, 1) ∧ 44 + 1 = 45 := ⟨by decide +kernel, rfl⟩
theorem dX8_drops_45 : decode cX8_drops 45 = .ok (.aload_n 0, 1) ∧ 45 + 1 = 46 := ⟨by decide +kernel, rfl⟩
theorem dX8_drops_46 : decode cX8_drops 46 = .ok (.getfield 25, 3) ∧ 46 + 3 = 49 := ⟨by decide +kernel, rfl⟩
theorem dX8_drops_49 : decode cX8_drops 49 = .ok (.iload_n 2, 1) ∧ 49 + 1 = 50 := ⟨by decide +kernel, rfl⟩
theorem dX8_drops_50 : decode cX8_drops 50 = .ok (.iconst 1, 1) ∧ 50 + 1 = 51 := ⟨by decide +kernel, rfl⟩
theorem dX8_drops_51 : decode cX8_drops 51 = .ok (.iadd, 1) ∧ 51 + 1 = 52 := ⟨by decide +kernel, rfl⟩
theorem dX8_drops_52 : decode cX8_drops 52 = .ok (.iaload, 1) ∧ 52 + 1 = 53 := ⟨by decide +kernel, rfl⟩
theorem dX8_drops_53 : decode cX8_drops 53 = .ok (.iastore, 1) ∧ 53 + 1 = 54 := ⟨by decide +kernel, rfl⟩
theorem dX8_drops_54 : decode cX8_drops 54 = .ok (.iinc 2 1, 3) ∧ 54 + 3 = 57 := ⟨by decide +kernel, rfl⟩
theorem dX8_drops_57 : decode cX8_drops 57 = .ok (.goto (-55), 3) ∧ ((57 : Nat) : Int) + (-55) = ((2 : Nat) : Int) := ⟨by decide +kernel, by decide⟩
theorem dX8_drops_60 : decode cX8_drops 60 = .ok (.aload_n 0, 1) ∧ 60 + 1 = 61 := ⟨by decide +kernel, rfl⟩
theorem dX8_drops_61 : decode cX8_drops 61 = .ok (.dup, 1) ∧ 61 + 1 = 62 := ⟨by decide +kernel, rfl⟩
theorem dX8_drops_62 : decode cX8_drops 62 = .ok (.getfield 91, 3) ∧ 62 + 3 = 65 := ⟨by decide +kernel, rfl⟩
theorem dX8_drops_65 : decode cX8_drops 65 = .ok (.iconst 1, 1) ∧ 65 + 1 = 66 := ⟨by decide +kernel, rfl⟩
theorem dX8_drops_66 : decode cX8_drops 66 = .ok (.isub, 1) ∧ 66 + 1 = 67 := ⟨by decide +kernel, rfl⟩
theorem dX8_drops_67 : decode cX8_drops 67 = .ok (.putfield 91, 3) ∧ 67 + 3 = 70 := ⟨by decide +kernel, rfl⟩
theorem dX8_drops_70 : decode cX8_drops 70 = .ok (.return_, 1) := by decide +kernel
def L_X8_drops_2 (k2 : Hp → Int32 → Option (Hp)) (fu : Nat) (o : Nat) (S : Hp) (x2 : Int32) : Option (Hp) :=
  (gI S (some o) 6 7).bind fun v6 =>
  if v6 ≤ (x2 + (1 : Int32)) then
    (gI S (some o) 6 7).bind fun v62 =>
    (pI S (some o) 6 7 (v62 - (1 : Int32))).bind fun S67 =>
    some S67
  else
    (gR S (some o) 6 4).bind fun v13 =>
    (gR S (some o) 6 4).bind fun v18 =>
    (aG S v18 (x2 + (1 : Int32))).bind fun v24 =>
    (aP S v13 x2 v24).bind fun S25 =>
    (gR S25 (some o) 6 5).bind fun v27 =>
    (gR S25 (some o) 6 5).bind fun v32 =>
    (aG S25 v32 (x2 + (1 : Int32))).bind fun v38 =>
    (aP S25 v27 x2 v38).bind fun S39 =>
    (gR S39 (some o) 6 6).bind fun v41 =>
    (gR S39 (some o) 6 6).bind fun v46 =>
    (aG S39 v46 (x2 + (1 : Int32))).bind fun v52 =>
    (aP S39 v41 x2 v52).bind fun S53 =>
    k2 S53 (x2 + (1 : Int32))
set_option maxRecDepth 100000 in
set_option maxHeartbeats 4000000 in
theorem wl_X8_drops_2 {E : Cx} {l : Launch} {res : Hp} {ad : Nat → Nat} {k2 : Hp → Int32 → Option (Hp)} {fu : Nat} {o : Nat} {S : Hp} {x2 : Int32} (K : Kx E cX8_drops RX8 (rmd 0 0 0)) (X : Bx E l yX8_drops 3 none 0 0 ad (QV res)) (hk2 : ∀ (S : Hp) (x2 : Int32), k2 S x2 = some res → J E 0 0 2 [(0, vR (some o)), (2, vI x2)] [] S ad) (h : L_X8_drops_2 k2 fu o S x2 = some res) : J E 0 0 2 [(0, vR (some o)), (2, vI x2)] [] S ad := by
  refine j_iload_n K dX8_drops_2 rfl 1 rfl ?_
  refine j_iconst (v := (1 : Int32)) K dX8_drops_3 (by decide) ?_
  refine j_iadd K dX8_drops_4 ?_
  refine j_aload_n K dX8_drops_5 rfl 0 rfl ?_
  obtain ⟨v6, e6, h⟩ := bd h
  refine fgX8_91 K dX8_drops_6 e6 ?_
  refine j_icmp_ge K dX8_drops_9 (fun c9 => ?_) (fun c9 => ?_)
  · replace h := it c9 h
    refine j_aload_n K dX8_drops_60 rfl 0 rfl ?_
    refine j_dup K dX8_drops_61 rfl ?_
    obtain ⟨v62, e62, h⟩ := bd h
    refine fgX8_91 K dX8_drops_62 e62 ?_
    refine j_iconst (v := (1 : Int32)) K dX8_drops_65 (by decide) ?_
    refine j_isub K dX8_drops_66 ?_
    obtain ⟨S67, e67, h⟩ := bd h
    refine fpX8_91 K dX8_drops_67 e67 ?_
    exact j_vret K X dX8_drops_70 h
  · replace h := ie c9 h
    refine j_aload_n K dX8_drops_12 rfl 0 rfl ?_
    obtain ⟨v13, e13, h⟩ := bd h
    refine fgX8_19 K dX8_drops_13 e13 ?_
    refine j_iload_n K dX8_drops_16 rfl 1 rfl ?_
    refine j_aload_n K dX8_drops_17 rfl 0 rfl ?_
    obtain ⟨v18, e18, h⟩ := bd h
    refine fgX8_19 K dX8_drops_18 e18 ?_
    refine j_iload_n K dX8_drops_21 rfl 1 rfl ?_
    refine j_iconst (v := (1 : Int32)) K dX8_drops_22 (by decide) ?_
    refine j_iadd K dX8_drops_23 ?_
    obtain ⟨v24, e24, h⟩ := bd h
    refine j_aG K dX8_drops_24 e24 ?_
    obtain ⟨S25, e25, h⟩ := bd h
    refine j_aP K dX8_drops_25 e25 ?_
    refine j_aload_n K dX8_drops_26 rfl 0 rfl ?_
    obtain ⟨v27, e27, h⟩ := bd h
    refine fgX8_22 K dX8_drops_27 e27 ?_
    refine j_iload_n K dX8_drops_30 rfl 1 rfl ?_
    refine j_aload_n K dX8_drops_31 rfl 0 rfl ?_
    obtain ⟨v32, e32, h⟩ := bd h
    refine fgX8_22 K dX8_drops_32 e32 ?_
    refine j_iload_n K dX8_drops_35 rfl 1 rfl ?_
    refine j_iconst (v := (1 : Int32)) K dX8_drops_36 (by decide) ?_
    refine j_iadd K dX8_drops_37 ?_
    obtain ⟨v38, e38, h⟩ := bd h
    refine j_aG K dX8_drops_38 e38 ?_
    obtain ⟨S39, e39, h⟩ := bd h
    refine j_aP K dX8_drops_39 e39 ?_
    refine j_aload_n K dX8_drops_40 rfl 0 rfl ?_
    obtain ⟨v41, e41, h⟩ := bd h
    refine fgX8_25 K dX8_drops_41 e41 ?_
    refine j_iload_n K dX8_drops_44 rfl 1 rfl ?_
    refine j_aload_n K dX8_drops_45 rfl 0 rfl ?_
    obtain ⟨v46, e46, h⟩ := bd h
    refine fgX8_25 K dX8_drops_46 e46 ?_
    refine j_iload_n K dX8_drops_49 rfl 1 rfl ?_
    refine j_iconst (v := (1 : Int32)) K dX8_drops_50 (by decide) ?_
    refine j_iadd K dX8_drops_51 ?_
    obtain ⟨v52, e52, h⟩ := bd h
    refine j_aG K dX8_drops_52 e52 ?_
    obtain ⟨S53, e53, h⟩ := bd h
    refine j_aP K dX8_drops_53 e53 ?_
    refine j_iinc (q := 1) (v := (x2 + (1 : Int32))) (lv' := [(2, vI (x2 + (1 : Int32))), (0, vR (some o))]) K dX8_drops_54 rfl rfl X.2.2.1 (by decide) rfl ?_
    refine j_goto K dX8_drops_57 ?_
    exact j_sub [1, 0] rfl (hk2 _ _ h)
def B_X8_drops_2 (fu : Nat) (o : Nat) : Nat → Hp → Int32 → Option (Hp)
  | 0 => fun _ _ => none
  | n + 1 => L_X8_drops_2 (B_X8_drops_2 fu o n) fu o
theorem w_X8_drops_2 {E : Cx} {l : Launch} {res : Hp} {ad : Nat → Nat} {fu : Nat} {o : Nat} (K : Kx E cX8_drops RX8 (rmd 0 0 0)) (X : Bx E l yX8_drops 3 none 0 0 ad (QV res)) : ∀ (n : Nat) (S : Hp) (x2 : Int32), B_X8_drops_2 fu o n S x2 = some res → J E 0 0 2 [(0, vR (some o)), (2, vI x2)] [] S ad := by
  intro n
  induction n with
  | zero =>
    intro S x2 h
    cases h
  | succ n ih =>
    intro S x2 h
    exact wl_X8_drops_2 K X ih h
def F_X8_drops (fu : Nat) (S : Hp) (o : Nat) (x1 : Int32) : Option (Hp) :=
  B_X8_drops_2 fu o fu S x1
set_option maxRecDepth 100000 in
set_option maxHeartbeats 4000000 in
theorem w_X8_drops {E : Cx} {l : Launch} {res : Hp} {ad : Nat → Nat} {fu : Nat} {S : Hp} {o : Nat} {x1 : Int32} (K : Kx E cX8_drops RX8 (rmd 0 0 0)) (X : Bx E l yX8_drops 3 none 0 0 ad (QV res)) (h : F_X8_drops fu S o x1 = some res) : J E 0 0 0 [(0, vR (some o)), (1, vI x1)] [] S ad := by
  refine j_iload_n K dX8_drops_0 rfl 1 rfl ?_
  refine j_istore_n (lv' := [(2, vI x1), (0, vR (some o)), (1, vI x1)]) K dX8_drops_1 rfl X.2.2.1 (by decide) rfl ?_
  exact j_sub [1, 0] rfl (w_X8_drops_2 K X _ _ _ h)
theorem c_X8_drops {l : Launch} {fu : Nat} {S : Hp} {o : Nat} {x1 : Int32} {res : Hp} (h : F_X8_drops fu S o x1 = some res) : Ct l yX8_drops cX8_drops 3 none (rmd 0 0 0) 0 0 [vR (some o), vI x1] S (QV res) :=
  z_entry (by decide +kernel) (Nat.le_of_ble_eq_true rfl) (fun E ad K X => w_X8_drops K X h)

theorem dX8_amend_0 : decode cX8_amend 0 = .ok (.aload_n 0, 1) ∧ 0 + 1 = 1 := ⟨by decide +kernel, rfl⟩
theorem dX8_amend_1 : decode cX8_amend 1 = .ok (.iload_n 1, 1) ∧ 1 + 1 = 2 := ⟨by decide +kernel, rfl⟩
theorem dX8_amend_2 : decode cX8_amend 2 = .ok (.invokevirtual 103, 3) := by decide +kernel
theorem dX8_amend_5 : decode cX8_amend 5 = .ok (.ifCond .ne 6, 3) ∧ 5 + 3 = 8 ∧ ((5 : Nat) : Int) + (6) = ((11 : Nat) : Int) := ⟨by decide +kernel, rfl, by decide⟩
theorem dX8_amend_8 : decode cX8_amend 8 = .ok (.bipush (-5), 2) ∧ 8 + 2 = 10 := ⟨by decide +kernel, rfl⟩
theorem dX8_amend_10 : decode cX8_amend 10 = .ok (.ireturn, 1) := by decide +kernel
theorem dX8_amend_11 : decode cX8_amend 11 = .ok (.aload_n 0, 1) ∧ 11 + 1 = 12 := ⟨by decide +kernel, rfl⟩
theorem dX8_amend_12 : decode cX8_amend 12 = .ok (.getfield 22, 3) ∧ 12 + 3 = 15 := ⟨by decide +kernel, rfl⟩
theorem dX8_amend_15 : decode cX8_amend 15 = .ok (.iload_n 1, 1) ∧ 15 + 1 = 16 := ⟨by decide +kernel, rfl⟩
theorem dX8_amend_16 : decode cX8_amend 16 = .ok (.iaload, 1) ∧ 16 + 1 = 17 := ⟨by decide +kernel, rfl⟩
theorem dX8_amend_17 : decode cX8_amend 17 = .ok (.istore_n 2, 1) ∧ 17 + 1 = 18 := ⟨by decide +kernel, rfl⟩
theorem dX8_amend_18 : decode cX8_amend 18 = .ok (.aload_n 0, 1) ∧ 18 + 1 = 19 := ⟨by decide +kernel, rfl⟩
theorem dX8_amend_19 : decode cX8_amend 19 = .ok (.iload_n 1, 1) ∧ 19 + 1 = 20 := ⟨by decide +kernel, rfl⟩
theorem dX8_amend_20 : decode cX8_amend 20 = .ok (.invokevirtual 107, 3) := by decide +kernel
theorem dX8_amend_23 : decode cX8_amend 23 = .ok (.iload_n 2, 1) ∧ 23 + 1 = 24 := ⟨by decide +kernel, rfl⟩
theorem dX8_amend_24 : decode cX8_amend 24 = .ok (.ireturn, 1) := by decide +kernel
def F_X8_amend (fu : Nat) (S : Hp) (o : Nat) (x1 : Int32) : Option (Int32 × Hp) :=
  (ob S 6 (some o)).bind fun _ =>
  b2 (F_X8_isWrong S o x1) fun v2 S2 =>
  if v2 = 0 then
    some ((-5 : Int32), S2)
  else
    (gR S2 (some o) 6 5).bind fun v12 =>
    (aG S2 v12 x1).bind fun v16 =>
    (ob S2 6 (some o)).bind fun _ =>
    (F_X8_drops fu S2 o x1).bind fun S20 =>
    some (v16, S20)
set_option maxRecDepth 100000 in
set_option maxHeartbeats 4000000 in
theorem w_X8_amend {E : Cx} {l : Launch} {res : Int32 × Hp} {ad : Nat → Nat} {fu : Nat} {S : Hp} {o : Nat} {x1 : Int32} (K : Kx E cX8_amend RX8 (rmd 2 0 0)) (X : Bx E l yX8_amend 3 (some .int) 0 0 ad (QI res)) (h : F_X8_amend fu S o x1 = some res) : J E 0 0 0 [(0, vR (some o)), (1, vI x1)] [] S ad := by
  refine j_aload_n K dX8_amend_0 rfl 0 rfl ?_
  refine j_iload_n K dX8_amend_1 rfl 1 rfl ?_
  obtain ⟨w2, ew2, h⟩ := bd h
  have ho2 := obS ew2
  obtain ⟨v2, S2, e2, h⟩ := bd2 h
  refine j_cI (st := []) K (r_V (vs := [vI x1]) (n := 1) (o := o) K (c_X8_isWrong e2) ho2 (by decide) rfl dX8_amend_2 z975 z977 zs33 z13 z978 ⟨zd_X8_isWrong, rfl, rfl, rfl, ⟨Nat.le_of_ble_eq_true rfl, Nat.le_of_ble_eq_true rfl⟩, Nat.le_of_ble_eq_true rfl, Nat.le_of_ble_eq_true rfl, Nat.le_of_ble_eq_true rfl⟩) rfl ?_
  refine j_if_ne K dX8_amend_5 (fun c5 => ?_) (fun c5 => ?_)
  · replace h := ie c5 h
    refine j_aload_n K dX8_amend_11 rfl 0 rfl ?_
    obtain ⟨v12, e12, h⟩ := bd h
    refine fgX8_22 K dX8_amend_12 e12 ?_
    refine j_iload_n K dX8_amend_15 rfl 1 rfl ?_
    obtain ⟨v16, e16, h⟩ := bd h
    refine j_aG K dX8_amend_16 e16 ?_
    refine j_istore_n (lv' := [(2, vI v16), (0, vR (some o)), (1, vI x1)]) K dX8_amend_17 rfl X.2.2.1 (by decide) rfl ?_
    refine j_aload_n K dX8_amend_18 rfl 1 rfl ?_
    refine j_iload_n K dX8_amend_19 rfl 2 rfl ?_
    obtain ⟨w20, ew20, h⟩ := bd h
    have ho20 := obS ew20
    obtain ⟨S20, e20, h⟩ := bd h
    refine j_cV (st := []) K (r_V (vs := [vI x1]) (n := 1) (o := o) K (c_X8_drops e20) ho20 (by decide) rfl dX8_amend_20 z983 z985 zs34 z13 z986 ⟨zd_X8_drops, rfl, rfl, rfl, ⟨Nat.le_of_ble_eq_true rfl, Nat.le_of_ble_eq_true rfl⟩, Nat.le_of_ble_eq_true rfl, Nat.le_of_ble_eq_true rfl, Nat.le_of_ble_eq_true rfl⟩) rfl ?_
    refine j_iload_n K dX8_amend_23 rfl 0 rfl ?_
    exact j_iret K X dX8_amend_24 h
  · replace h := it c5 h
    refine j_bipush (v := (-5 : Int32)) K dX8_amend_8 (by decide) ?_
    exact j_iret K X dX8_amend_10 h
theorem c_X8_amend {l : Launch} {fu : Nat} {S : Hp} {o : Nat} {x1 : Int32} {res : Int32 × Hp} (h : F_X8_amend fu S o x1 = some res) : Ct l yX8_amend cX8_amend 3 (some .int) (rmd 2 0 0) 0 0 [vR (some o), vI x1] S (QI res) :=
  z_entry (by decide +kernel) (Nat.le_of_ble_eq_true rfl) (fun E ad K X => w_X8_amend K X h)

theorem dX8_isByte_0 : decode cX8_isByte 0 = .ok (.iload_n 0, 1) ∧ 0 + 1 = 1 := ⟨by decide +kernel, rfl⟩
theorem dX8_isByte_1 : decode cX8_isByte 1 = .ok (.iconst 0, 1) ∧ 1 + 1 = 2 := ⟨by decide +kernel, rfl⟩
theorem dX8_isByte_2 : decode cX8_isByte 2 = .ok (.sipush 255, 3) ∧ 2 + 3 = 5 := ⟨by decide +kernel, rfl⟩
theorem dX8_isByte_5 : decode cX8_isByte 5 = .ok (.invokestatic 87, 3) := by decide +kernel
theorem dX8_isByte_8 : decode cX8_isByte 8 = .ok (.ireturn, 1) := by decide +kernel
def F_X8_isByte (S : Hp) (x0 : Int32) : Option (Int32 × Hp) :=
  b2 (F_X8_in S x0 (0 : Int32) (255 : Int32)) fun v5 S5 =>
  zb v5 S5
set_option maxRecDepth 100000 in
set_option maxHeartbeats 4000000 in
theorem w_X8_isByte {E : Cx} {l : Launch} {res : Int32 × Hp} {ad : Nat → Nat} {S : Hp} {x0 : Int32} (K : Kx E cX8_isByte RX8 (rmd 1 0 0)) (X : Bx E l yX8_isByte 1 (some .boolean) 0 0 ad (QI res)) (h : F_X8_isByte S x0 = some res) : J E 0 0 0 [(0, vI x0)] [] S ad := by
  refine j_iload_n K dX8_isByte_0 rfl 0 rfl ?_
  refine j_iconst (v := (0 : Int32)) K dX8_isByte_1 (by decide) ?_
  refine j_sipush (v := (255 : Int32)) K dX8_isByte_2 (by decide) ?_
  obtain ⟨v5, S5, e5, h⟩ := bd2 h
  refine j_cI (st := []) K (r_S (vs := [vI x0, vI (0 : Int32), vI (255 : Int32)]) (n := 3) K (c_X8_in e5) dX8_isByte_5 z812 z813 z13 z814 ⟨zd_X8_in, rfl, rfl, rfl, ⟨Nat.le_of_ble_eq_true rfl, Nat.le_of_ble_eq_true rfl⟩, Nat.le_of_ble_eq_true rfl, Nat.le_of_ble_eq_true rfl, Nat.le_of_ble_eq_true rfl⟩) rfl ?_
  exact j_zret K X dX8_isByte_8 h
theorem c_X8_isByte {l : Launch} {S : Hp} {x0 : Int32} {res : Int32 × Hp} (h : F_X8_isByte S x0 = some res) : Ct l yX8_isByte cX8_isByte 1 (some .boolean) (rmd 1 0 0) 0 0 [vI x0] S (QI res) :=
  z_entry (by decide +kernel) (Nat.le_of_ble_eq_true rfl) (fun E ad K X => w_X8_isByte K X h)

theorem dX8_feed_0 : decode cX8_feed 0 = .ok (.iload_n 1, 1) ∧ 0 + 1 = 1 := ⟨by decide +kernel, rfl⟩
theorem dX8_feed_1 : decode cX8_feed 1 = .ok (.iconst 1, 1) ∧ 1 + 1 = 2 := ⟨by decide +kernel, rfl⟩
theorem dX8_feed_2 : decode cX8_feed 2 = .ok (.iconst 5, 1) ∧ 2 + 1 = 3 := ⟨by decide +kernel, rfl⟩
theorem dX8_feed_3 : decode cX8_feed 3 = .ok (.invokestatic 87, 3) := by decide +kernel
theorem dX8_feed_6 : decode cX8_feed 6 = .ok (.ifCond .eq 41, 3) ∧ 6 + 3 = 9 ∧ ((6 : Nat) : Int) + (41) = ((47 : Nat) : Int) := ⟨by decide +kernel, rfl, by decide⟩
theorem dX8_feed_9 : decode cX8_feed 9 = .ok (.iload_n 2, 1) ∧ 9 + 1 = 10 := ⟨by decide +kernel, rfl⟩
theorem dX8_feed_10 : decode cX8_feed 10 = .ok (.invokestatic 111, 3) := by decide +kernel
theorem dX8_feed_13 : decode cX8_feed 13 = .ok (.ifCond .eq 34, 3) ∧ 13 + 3 = 16 ∧ ((13 : Nat) : Int) + (34) = ((47 : Nat) : Int) := ⟨by decide +kernel, rfl, by decide⟩
theorem dX8_feed_16 : decode cX8_feed 16 = .ok (.iload_n 3, 1) ∧ 16 + 1 = 17 := ⟨by decide +kernel, rfl⟩
theorem dX8_feed_17 : decode cX8_feed 17 = .ok (.invokestatic 111, 3) := by decide +kernel
theorem dX8_feed_20 : decode cX8_feed 20 = .ok (.ifCond .eq 27, 3) ∧ 20 + 3 = 23 ∧ ((20 : Nat) : Int) + (27) = ((47 : Nat) : Int) := ⟨by decide +kernel, rfl, by decide⟩
theorem dX8_feed_23 : decode cX8_feed 23 = .ok (.iload 4, 2) ∧ 23 + 2 = 25 := ⟨by decide +kernel, rfl⟩
theorem dX8_feed_25 : decode cX8_feed 25 = .ok (.invokestatic 111, 3) := by decide +kernel
theorem dX8_feed_28 : decode cX8_feed 28 = .ok (.ifCond .eq 19, 3) ∧ 28 + 3 = 31 ∧ ((28 : Nat) : Int) + (19) = ((47 : Nat) : Int) := ⟨by decide +kernel, rfl, by decide⟩
theorem dX8_feed_31 : decode cX8_feed 31 = .ok (.iload 5, 2) ∧ 31 + 2 = 33 := ⟨by decide +kernel, rfl⟩
theorem dX8_feed_33 : decode cX8_feed 33 = .ok (.invokestatic 111, 3) := by decide +kernel
theorem dX8_feed_36 : decode cX8_feed 36 = .ok (.ifCond .eq 11, 3) ∧ 36 + 3 = 39 ∧ ((36 : Nat) : Int) + (11) = ((47 : Nat) : Int) := ⟨by decide +kernel, rfl, by decide⟩
theorem dX8_feed_39 : decode cX8_feed 39 = .ok (.iload 6, 2) ∧ 39 + 2 = 41 := ⟨by decide +kernel, rfl⟩
theorem dX8_feed_41 : decode cX8_feed 41 = .ok (.invokestatic 111, 3) := by decide +kernel
theorem dX8_feed_44 : decode cX8_feed 44 = .ok (.ifCond .ne 6, 3) ∧ 44 + 3 = 47 ∧ ((44 : Nat) : Int) + (6) = ((50 : Nat) : Int) := ⟨by decide +kernel, rfl, by decide⟩
theorem dX8_feed_47 : decode cX8_feed 47 = .ok (.bipush (-2), 2) ∧ 47 + 2 = 49 := ⟨by decide +kernel, rfl⟩
theorem dX8_feed_49 : decode cX8_feed 49 = .ok (.ireturn, 1) := by decide +kernel
theorem dX8_feed_50 : decode cX8_feed 50 = .ok (.aload_n 0, 1) ∧ 50 + 1 = 51 := ⟨by decide +kernel, rfl⟩
theorem dX8_feed_51 : decode cX8_feed 51 = .ok (.getfield 76, 3) ∧ 51 + 3 = 54 := ⟨by decide +kernel, rfl⟩
theorem dX8_feed_54 : decode cX8_feed 54 = .ok (.iload_n 1, 1) ∧ 54 + 1 = 55 := ⟨by decide +kernel, rfl⟩
theorem dX8_feed_55 : decode cX8_feed 55 = .ok (.iadd, 1) ∧ 55 + 1 = 56 := ⟨by decide +kernel, rfl⟩
theorem dX8_feed_56 : decode cX8_feed 56 = .ok (.sipush 160, 3) ∧ 56 + 3 = 59 := ⟨by decide +kernel, rfl⟩
theorem dX8_feed_59 : decode cX8_feed 59 = .ok (.if_icmp .le 6, 3) ∧ 59 + 3 = 62 ∧ ((59 : Nat) : Int) + (6) = ((65 : Nat) : Int) := ⟨by decide +kernel, rfl, by decide⟩
theorem dX8_feed_62 : decode cX8_feed 62 = .ok (.bipush (-4), 2) ∧ 62 + 2 = 64 := ⟨by decide +kernel, rfl⟩
theorem dX8_feed_64 : decode cX8_feed 64 = .ok (.ireturn, 1) := by decide +kernel
theorem dX8_feed_65 : decode cX8_feed 65 = .ok (.iconst 0, 1) ∧ 65 + 1 = 66 := ⟨by decide +kernel, rfl⟩
theorem dX8_feed_66 : decode cX8_feed 66 = .ok (.istore 7, 2) ∧ 66 + 2 = 68 := ⟨by decide +kernel, rfl⟩
theorem dX8_feed_68 : decode cX8_feed 68 = .ok (.iload 7, 2) ∧ 68 + 2 = 70 := ⟨by decide +kernel, rfl⟩
theorem dX8_feed_70 : decode cX8_feed 70 = .ok (.iload_n 1, 1) ∧ 70 + 1 = 71 := ⟨by decide +kernel, rfl⟩
theorem dX8_feed_71 : decode cX8_feed 71 = .ok (.if_icmp .ge 71, 3) ∧ 71 + 3 = 74 ∧ ((71 : Nat) : Int) + (71) = ((142 : Nat) : Int) := ⟨by decide +kernel, rfl, by decide⟩
theorem dX8_feed_74 : decode cX8_feed 74 = .ok (.aload_n 0, 1) ∧ 74 + 1 = 75 := ⟨by decide +kernel, rfl⟩
theorem dX8_feed_75 : decode cX8_feed 75 = .ok (.getfield 28, 3) ∧ 75 + 3 = 78 := ⟨by decide +kernel, rfl⟩
theorem dX8_feed_78 : decode cX8_feed 78 = .ok (.aload_n 0, 1) ∧ 78 + 1 = 79 := ⟨by decide +kernel, rfl⟩
theorem dX8_feed_79 : decode cX8_feed 79 = .ok (.getfield 76, 3) ∧ 79 + 3 = 82 := ⟨by decide +kernel, rfl⟩
theorem dX8_feed_82 : decode cX8_feed 82 = .ok (.iload 7, 2) ∧ 82 + 2 = 84 := ⟨by decide +kernel, rfl⟩
theorem dX8_feed_84 : decode cX8_feed 84 = .ok (.ifCond .ne 7, 3) ∧ 84 + 3 = 87 ∧ ((84 : Nat) : Int) + (7) = ((91 : Nat) : Int) := ⟨by decide +kernel, rfl, by decide⟩
theorem dX8_feed_87 : decode cX8_feed 87 = .ok (.iload_n 2, 1) ∧ 87 + 1 = 88 := ⟨by decide +kernel, rfl⟩
theorem dX8_feed_88 : decode cX8_feed 88 = .ok (.goto 37, 3) ∧ ((88 : Nat) : Int) + (37) = ((125 : Nat) : Int) := ⟨by decide +kernel, by decide⟩
theorem dX8_feed_91 : decode cX8_feed 91 = .ok (.iload 7, 2) ∧ 91 + 2 = 93 := ⟨by decide +kernel, rfl⟩
theorem dX8_feed_93 : decode cX8_feed 93 = .ok (.iconst 1, 1) ∧ 93 + 1 = 94 := ⟨by decide +kernel, rfl⟩
theorem dX8_feed_94 : decode cX8_feed 94 = .ok (.if_icmp .ne 7, 3) ∧ 94 + 3 = 97 ∧ ((94 : Nat) : Int) + (7) = ((101 : Nat) : Int) := ⟨by decide +kernel, rfl, by decide⟩
theorem dX8_feed_97 : decode cX8_feed 97 = .ok (.iload_n 3, 1) ∧ 97 + 1 = 98 := ⟨by decide +kernel, rfl⟩
theorem dX8_feed_98 : decode cX8_feed 98 = .ok (.goto 27, 3) ∧ ((98 : Nat) : Int) + (27) = ((125 : Nat) : Int) := ⟨by decide +kernel, by decide⟩
theorem dX8_feed_101 : decode cX8_feed 101 = .ok (.iload 7, 2) ∧ 101 + 2 = 103 := ⟨by decide +kernel, rfl⟩
theorem dX8_feed_103 : decode cX8_feed 103 = .ok (.iconst 2, 1) ∧ 103 + 1 = 104 := ⟨by decide +kernel, rfl⟩
theorem dX8_feed_104 : decode cX8_feed 104 = .ok (.if_icmp .ne 8, 3) ∧ 104 + 3 = 107 ∧ ((104 : Nat) : Int) + (8) = ((112 : Nat) : Int) := ⟨by decide +kernel, rfl, by decide⟩
theorem dX8_feed_107 : decode cX8_feed 107 = .ok (.iload 4, 2) ∧ 107 + 2 = 109 := ⟨by decide +kernel, rfl⟩
theorem dX8_feed_109 : decode cX8_feed 109 = .ok (.goto 16, 3) ∧ ((109 : Nat) : Int) + (16) = ((125 : Nat) : Int) := ⟨by decide +kernel, by decide⟩
theorem dX8_feed_112 : decode cX8_feed 112 = .ok (.iload 7, 2) ∧ 112 + 2 = 114 := ⟨by decide +kernel, rfl⟩
theorem dX8_feed_114 : decode cX8_feed 114 = .ok (.iconst 3, 1) ∧ 114 + 1 = 115 := ⟨by decide +kernel, rfl⟩
theorem dX8_feed_115 : decode cX8_feed 115 = .ok (.if_icmp .ne 8, 3) ∧ 115 + 3 = 118 ∧ ((115 : Nat) : Int) + (8) = ((123 : Nat) : Int) := ⟨by decide +kernel, rfl, by decide⟩
theorem dX8_feed_118 : decode cX8_feed 118 = .ok (.iload 5, 2) ∧ 118 + 2 = 120 := ⟨by decide +kernel, rfl⟩
theorem dX8_feed_120 : decode cX8_feed 120 = .ok (.goto 5, 3) ∧ ((120 : Nat) : Int) + (5) = ((125 : Nat) : Int) := ⟨by decide +kernel, by decide⟩
theorem dX8_feed_123 : decode cX8_feed 123 = .ok (.iload 6, 2) ∧ 123 + 2 = 125 := ⟨by decide +kernel, rfl⟩
theorem dX8_feed_125 : decode cX8_feed 125 = .ok (.iastore, 1) ∧ 125 + 1 = 126 := ⟨by decide +kernel, rfl⟩
theorem dX8_feed_126 : decode cX8_feed 126 = .ok (.aload_n 0, 1) ∧ 126 + 1 = 127 := ⟨by decide +kernel, rfl⟩
theorem dX8_feed_127 : decode cX8_feed 127 = .ok (.dup, 1) ∧ 127 + 1 = 128 := ⟨by decide +kernel, rfl⟩
theorem dX8_feed_128 : decode cX8_feed 128 = .ok (.getfield 76, 3) ∧ 128 + 3 = 131 := ⟨by decide +kernel, rfl⟩
theorem dX8_feed_131 : decode cX8_feed 131 = .ok (.iconst 1, 1) ∧ 131 + 1 = 132 := ⟨by decide +kernel, rfl⟩
theorem dX8_feed_132 : decode cX8_feed 132 = .ok (.iadd, 1) ∧ 132 + 1 = 133 := ⟨by decide +kernel, rfl⟩
theorem dX8_feed_133 : decode cX8_feed 133 = .ok (.putfield 76, 3) ∧ 133 + 3 = 136 := ⟨by decide +kernel, rfl⟩
theorem dX8_feed_136 : decode cX8_feed 136 = .ok (.iinc 7 1, 3) ∧ 136 + 3 = 139 := ⟨by decide +kernel, rfl⟩
theorem dX8_feed_139 : decode cX8_feed 139 = .ok (.goto (-71), 3) ∧ ((139 : Nat) : Int) + (-71) = ((68 : Nat) : Int) := ⟨by decide +kernel, by decide⟩
theorem dX8_feed_142 : decode cX8_feed 142 = .ok (.aload_n 0, 1) ∧ 142 + 1 = 143 := ⟨by decide +kernel, rfl⟩
theorem dX8_feed_143 : decode cX8_feed 143 = .ok (.getfield 76, 3) ∧ 143 + 3 = 146 := ⟨by decide +kernel, rfl⟩
theorem dX8_feed_146 : decode cX8_feed 146 = .ok (.ireturn, 1) := by decide +kernel
def B_X8_feed_47 (fu : Nat) (o : Nat) (S : Hp) : Option (Int32 × Hp) :=
  some ((-2 : Int32), S)
set_option maxRecDepth 100000 in
set_option maxHeartbeats 4000000 in
theorem w_X8_feed_47 {E : Cx} {l : Launch} {res : Int32 × Hp} {ad : Nat → Nat} {fu : Nat} {o : Nat} {S : Hp} (K : Kx E cX8_feed RX8 (rmd 2 0 0)) (X : Bx E l yX8_feed 8 (some .int) 0 0 ad (QI res)) (h : B_X8_feed_47 fu o S = some res) : J E 0 0 47 [] [] S ad := by
  refine j_bipush (v := (-2 : Int32)) K dX8_feed_47 (by decide) ?_
  exact j_iret K X dX8_feed_49 h
def B_X8_feed_125 (k68 : Hp → Int32 → Option (Int32 × Hp)) (fu : Nat) (o : Nat) (S : Hp) (x1 : Int32) (x2 : Int32) (x3 : Int32) (x4 : Int32) (x5 : Int32) (x6 : Int32) (x7 : Int32) (s0 : Int32) (s1 : Int32) (s2 : Option Nat) : Option (Int32 × Hp) :=
  (aP S s2 s1 s0).bind fun S125 =>
  (gI S125 (some o) 6 10).bind fun v128 =>
  (pI S125 (some o) 6 10 (v128 + (1 : Int32))).bind fun S133 =>
  k68 S133 (x7 + (1 : Int32))
set_option maxRecDepth 100000 in
set_option maxHeartbeats 4000000 in
theorem w_X8_feed_125 {E : Cx} {l : Launch} {res : Int32 × Hp} {ad : Nat → Nat} {k68 : Hp → Int32 → Option (Int32 × Hp)} {fu : Nat} {o : Nat} {S : Hp} {x1 : Int32} {x2 : Int32} {x3 : Int32} {x4 : Int32} {x5 : Int32} {x6 : Int32} {x7 : Int32} {s0 : Int32} {s1 : Int32} {s2 : Option Nat} (K : Kx E cX8_feed RX8 (rmd 2 0 0)) (X : Bx E l yX8_feed 8 (some .int) 0 0 ad (QI res)) (hk68 : ∀ (S : Hp) (x7 : Int32), k68 S x7 = some res → J E 0 0 68 [(0, vR (some o)), (1, vI x1), (2, vI x2), (3, vI x3), (4, vI x4), (5, vI x5), (6, vI x6), (7, vI x7)] [] S ad) (h : B_X8_feed_125 k68 fu o S x1 x2 x3 x4 x5 x6 x7 s0 s1 s2 = some res) : J E 0 0 125 [(0, vR (some o)), (1, vI x1), (2, vI x2), (3, vI x3), (4, vI x4), (5, vI x5), (6, vI x6), (7, vI x7)] [vI s0, vI s1, vR s2] S ad := by
  obtain ⟨S125, e125, h⟩ := bd h
  refine j_aP K dX8_feed_125 e125 ?_
  refine j_aload_n K dX8_feed_126 rfl 0 rfl ?_
  refine j_dup K dX8_feed_127 rfl ?_
  obtain ⟨v128, e128, h⟩ := bd h
  refine fgX8_76 K dX8_feed_128 e128 ?_
  refine j_iconst (v := (1 : Int32)) K dX8_feed_131 (by decide) ?_
  refine j_iadd K dX8_feed_132 ?_
  obtain ⟨S133, e133, h⟩ := bd h
  refine fpX8_76 K dX8_feed_133 e133 ?_
  refine j_iinc (q := 7) (v := (x7 + (1 : Int32))) (lv' := [(7, vI (x7 + (1 : Int32))), (0, vR (some o)), (1, vI x1), (2, vI x2), (3, vI x3), (4, vI x4), (5, vI x5), (6, vI x6)]) K dX8_feed_136 rfl rfl X.2.2.1 (by decide) rfl ?_
  refine j_goto K dX8_feed_139 ?_
  exact j_sub [1, 2, 3, 4, 5, 6, 7, 0] rfl (hk68 _ _ h)
def L_X8_feed_68 (k68 : Hp → Int32 → Option (Int32 × Hp)) (fu : Nat) (o : Nat) (x1 : Int32) (x2 : Int32) (x3 : Int32) (x4 : Int32) (x5 : Int32) (x6 : Int32) (S : Hp) (x7 : Int32) : Option (Int32 × Hp) :=
  if x1 ≤ x7 then
    (gI S (some o) 6 10).bind fun v143 =>
    some (v143, S)
  else
    (gR S (some o) 6 9).bind fun v75 =>
    (gI S (some o) 6 10).bind fun v79 =>
    if x7 = 0 then
      B_X8_feed_125 k68 fu o S x1 x2 x3 x4 x5 x6 x7 x2 v79 v75
    else
      if x7 = (1 : Int32) then
        B_X8_feed_125 k68 fu o S x1 x2 x3 x4 x5 x6 x7 x3 v79 v75
      else
        if x7 = (2 : Int32) then
          B_X8_feed_125 k68 fu o S x1 x2 x3 x4 x5 x6 x7 x4 v79 v75
        else
          if x7 = (3 : Int32) then
            B_X8_feed_125 k68 fu o S x1 x2 x3 x4 x5 x6 x7 x5 v79 v75
          else
            B_X8_feed_125 k68 fu o S x1 x2 x3 x4 x5 x6 x7 x6 v79 v75
set_option maxRecDepth 100000 in
set_option maxHeartbeats 4000000 in
theorem wl_X8_feed_68 {E : Cx} {l : Launch} {res : Int32 × Hp} {ad : Nat → Nat} {k68 : Hp → Int32 → Option (Int32 × Hp)} {fu : Nat} {o : Nat} {S : Hp} {x1 : Int32} {x2 : Int32} {x3 : Int32} {x4 : Int32} {x5 : Int32} {x6 : Int32} {x7 : Int32} (K : Kx E cX8_feed RX8 (rmd 2 0 0)) (X : Bx E l yX8_feed 8 (some .int) 0 0 ad (QI res)) (hk68 : ∀ (S : Hp) (x7 : Int32), k68 S x7 = some res → J E 0 0 68 [(0, vR (some o)), (1, vI x1), (2, vI x2), (3, vI x3), (4, vI x4), (5, vI x5), (6, vI x6), (7, vI x7)] [] S ad) (h : L_X8_feed_68 k68 fu o x1 x2 x3 x4 x5 x6 S x7 = some res) : J E 0 0 68 [(0, vR (some o)), (1, vI x1), (2, vI x2), (3, vI x3), (4, vI x4), (5, vI x5), (6, vI x6), (7, vI x7)] [] S ad := by
  refine j_iload K dX8_feed_68 7 rfl ?_
  refine j_iload_n K dX8_feed_70 rfl 1 rfl ?_
  refine j_icmp_ge K dX8_feed_71 (fun c71 => ?_) (fun c71 => ?_)
  · replace h := it c71 h
    refine j_aload_n K dX8_feed_142 rfl 0 rfl ?_
    obtain ⟨v143, e143, h⟩ := bd h
    refine fgX8_76 K dX8_feed_143 e143 ?_
    exact j_iret K X dX8_feed_146 h
  · replace h := ie c71 h
    refine j_aload_n K dX8_feed_74 rfl 0 rfl ?_
    obtain ⟨v75, e75, h⟩ := bd h
    refine fgX8_28 K dX8_feed_75 e75 ?_
    refine j_aload_n K dX8_feed_78 rfl 0 rfl ?_
    obtain ⟨v79, e79, h⟩ := bd h
    refine fgX8_76 K dX8_feed_79 e79 ?_
    refine j_iload K dX8_feed_82 7 rfl ?_
    refine j_if_ne K dX8_feed_84 (fun c84 => ?_) (fun c84 => ?_)
    · replace h := ie c84 h
      refine j_iload K dX8_feed_91 7 rfl ?_
      refine j_iconst (v := (1 : Int32)) K dX8_feed_93 (by decide) ?_
      refine j_icmp_ne K dX8_feed_94 (fun c94 => ?_) (fun c94 => ?_)
      · replace h := ie c94 h
        refine j_iload K dX8_feed_101 7 rfl ?_
        refine j_iconst (v := (2 : Int32)) K dX8_feed_103 (by decide) ?_
        refine j_icmp_ne K dX8_feed_104 (fun c104 => ?_) (fun c104 => ?_)
        · replace h := ie c104 h
          refine j_iload K dX8_feed_112 7 rfl ?_
          refine j_iconst (v := (3 : Int32)) K dX8_feed_114 (by decide) ?_
          refine j_icmp_ne K dX8_feed_115 (fun c115 => ?_) (fun c115 => ?_)
          · replace h := ie c115 h
            refine j_iload K dX8_feed_123 6 rfl ?_
            exact w_X8_feed_125 K X hk68 h
          · replace h := it c115 h
            refine j_iload K dX8_feed_118 5 rfl ?_
            refine j_goto K dX8_feed_120 ?_
            exact w_X8_feed_125 K X hk68 h
        · replace h := it c104 h
          refine j_iload K dX8_feed_107 4 rfl ?_
          refine j_goto K dX8_feed_109 ?_
          exact w_X8_feed_125 K X hk68 h
      · replace h := it c94 h
        refine j_iload_n K dX8_feed_97 rfl 3 rfl ?_
        refine j_goto K dX8_feed_98 ?_
        exact w_X8_feed_125 K X hk68 h
    · replace h := it c84 h
      refine j_iload_n K dX8_feed_87 rfl 2 rfl ?_
      refine j_goto K dX8_feed_88 ?_
      exact w_X8_feed_125 K X hk68 h
def B_X8_feed_68 (fu : Nat) (o : Nat) (x1 : Int32) (x2 : Int32) (x3 : Int32) (x4 : Int32) (x5 : Int32) (x6 : Int32) : Nat → Hp → Int32 → Option (Int32 × Hp)
  | 0 => fun _ _ => none
  | n + 1 => L_X8_feed_68 (B_X8_feed_68 fu o x1 x2 x3 x4 x5 x6 n) fu o x1 x2 x3 x4 x5 x6
theorem w_X8_feed_68 {E : Cx} {l : Launch} {res : Int32 × Hp} {ad : Nat → Nat} {fu : Nat} {o : Nat} {x1 : Int32} {x2 : Int32} {x3 : Int32} {x4 : Int32} {x5 : Int32} {x6 : Int32} (K : Kx E cX8_feed RX8 (rmd 2 0 0)) (X : Bx E l yX8_feed 8 (some .int) 0 0 ad (QI res)) : ∀ (n : Nat) (S : Hp) (x7 : Int32), B_X8_feed_68 fu o x1 x2 x3 x4 x5 x6 n S x7 = some res → J E 0 0 68 [(0, vR (some o)), (1, vI x1), (2, vI x2), (3, vI x3), (4, vI x4), (5, vI x5), (6, vI x6), (7, vI x7)] [] S ad := by
  intro n
  induction n with
  | zero =>
    intro S x7 h
    cases h
  | succ n ih =>
    intro S x7 h
    exact wl_X8_feed_68 K X ih h
def F_X8_feed (fu : Nat) (S : Hp) (o : Nat) (x1 : Int32) (x2 : Int32) (x3 : Int32) (x4 : Int32) (x5 : Int32) (x6 : Int32) : Option (Int32 × Hp) :=
  b2 (F_X8_in S x1 (1 : Int32) (5 : Int32)) fun v3 S3 =>
  if v3 = 0 then
    B_X8_feed_47 fu o S3
  else
    b2 (F_X8_isByte S3 x2) fun v10 S10 =>
    if v10 = 0 then
      B_X8_feed_47 fu o S10
    else
      b2 (F_X8_isByte S10 x3) fun v17 S17 =>
      if v17 = 0 then
        B_X8_feed_47 fu o S17
      else
        b2 (F_X8_isByte S17 x4) fun v25 S25 =>
        if v25 = 0 then
          B_X8_feed_47 fu o S25
        else
          b2 (F_X8_isByte S25 x5) fun v33 S33 =>
          if v33 = 0 then
            B_X8_feed_47 fu o S33
          else
            b2 (F_X8_isByte S33 x6) fun v41 S41 =>
            if v41 = 0 then
              B_X8_feed_47 fu o S41
            else
              (gI S41 (some o) 6 10).bind fun v51 =>
              if (v51 + x1) ≤ (160 : Int32) then
                B_X8_feed_68 fu o x1 x2 x3 x4 x5 x6 fu S41 (0 : Int32)
              else
                some ((-4 : Int32), S41)
set_option maxRecDepth 100000 in
set_option maxHeartbeats 4000000 in
theorem w_X8_feed {E : Cx} {l : Launch} {res : Int32 × Hp} {ad : Nat → Nat} {fu : Nat} {S : Hp} {o : Nat} {x1 : Int32} {x2 : Int32} {x3 : Int32} {x4 : Int32} {x5 : Int32} {x6 : Int32} (K : Kx E cX8_feed RX8 (rmd 2 0 0)) (X : Bx E l yX8_feed 8 (some .int) 0 0 ad (QI res)) (h : F_X8_feed fu S o x1 x2 x3 x4 x5 x6 = some res) : J E 0 0 0 [(0, vR (some o)), (1, vI x1), (2, vI x2), (3, vI x3), (4, vI x4), (5, vI x5), (6, vI x6)] [] S ad := by
  refine j_iload_n K dX8_feed_0 rfl 1 rfl ?_
  refine j_iconst (v := (1 : Int32)) K dX8_feed_1 (by decide) ?_
  refine j_iconst (v := (5 : Int32)) K dX8_feed_2 (by decide) ?_
  obtain ⟨v3, S3, e3, h⟩ := bd2 h
  refine j_cI (st := []) K (r_S (vs := [vI x1, vI (1 : Int32), vI (5 : Int32)]) (n := 3) K (c_X8_in e3) dX8_feed_3 z812 z813 z13 z814 ⟨zd_X8_in, rfl, rfl, rfl, ⟨Nat.le_of_ble_eq_true rfl, Nat.le_of_ble_eq_true rfl⟩, Nat.le_of_ble_eq_true rfl, Nat.le_of_ble_eq_true rfl, Nat.le_of_ble_eq_true rfl⟩) rfl ?_
  refine j_if_eq K dX8_feed_6 (fun c6 => ?_) (fun c6 => ?_)
  · replace h := it c6 h
    exact j_sub [] rfl (w_X8_feed_47 K X h)
  · replace h := ie c6 h
    refine j_iload_n K dX8_feed_9 rfl 2 rfl ?_
    obtain ⟨v10, S10, e10, h⟩ := bd2 h
    refine j_cI (st := []) K (r_S (vs := [vI x2]) (n := 1) K (c_X8_isByte e10) dX8_feed_10 z991 z992 z13 z993 ⟨zd_X8_isByte, rfl, rfl, rfl, ⟨Nat.le_of_ble_eq_true rfl, Nat.le_of_ble_eq_true rfl⟩, Nat.le_of_ble_eq_true rfl, Nat.le_of_ble_eq_true rfl, Nat.le_of_ble_eq_true rfl⟩) rfl ?_
    refine j_if_eq K dX8_feed_13 (fun c13 => ?_) (fun c13 => ?_)
    · replace h := it c13 h
      exact j_sub [] rfl (w_X8_feed_47 K X h)
    · replace h := ie c13 h
      refine j_iload_n K dX8_feed_16 rfl 3 rfl ?_
      obtain ⟨v17, S17, e17, h⟩ := bd2 h
      refine j_cI (st := []) K (r_S (vs := [vI x3]) (n := 1) K (c_X8_isByte e17) dX8_feed_17 z991 z992 z13 z993 ⟨zd_X8_isByte, rfl, rfl, rfl, ⟨Nat.le_of_ble_eq_true rfl, Nat.le_of_ble_eq_true rfl⟩, Nat.le_of_ble_eq_true rfl, Nat.le_of_ble_eq_true rfl, Nat.le_of_ble_eq_true rfl⟩) rfl ?_
      refine j_if_eq K dX8_feed_20 (fun c20 => ?_) (fun c20 => ?_)
      · replace h := it c20 h
        exact j_sub [] rfl (w_X8_feed_47 K X h)
      · replace h := ie c20 h
        refine j_iload K dX8_feed_23 4 rfl ?_
        obtain ⟨v25, S25, e25, h⟩ := bd2 h
        refine j_cI (st := []) K (r_S (vs := [vI x4]) (n := 1) K (c_X8_isByte e25) dX8_feed_25 z991 z992 z13 z993 ⟨zd_X8_isByte, rfl, rfl, rfl, ⟨Nat.le_of_ble_eq_true rfl, Nat.le_of_ble_eq_true rfl⟩, Nat.le_of_ble_eq_true rfl, Nat.le_of_ble_eq_true rfl, Nat.le_of_ble_eq_true rfl⟩) rfl ?_
        refine j_if_eq K dX8_feed_28 (fun c28 => ?_) (fun c28 => ?_)
        · replace h := it c28 h
          exact j_sub [] rfl (w_X8_feed_47 K X h)
        · replace h := ie c28 h
          refine j_iload K dX8_feed_31 5 rfl ?_
          obtain ⟨v33, S33, e33, h⟩ := bd2 h
          refine j_cI (st := []) K (r_S (vs := [vI x5]) (n := 1) K (c_X8_isByte e33) dX8_feed_33 z991 z992 z13 z993 ⟨zd_X8_isByte, rfl, rfl, rfl, ⟨Nat.le_of_ble_eq_true rfl, Nat.le_of_ble_eq_true rfl⟩, Nat.le_of_ble_eq_true rfl, Nat.le_of_ble_eq_true rfl, Nat.le_of_ble_eq_true rfl⟩) rfl ?_
          refine j_if_eq K dX8_feed_36 (fun c36 => ?_) (fun c36 => ?_)
          · replace h := it c36 h
            exact j_sub [] rfl (w_X8_feed_47 K X h)
          · replace h := ie c36 h
            refine j_iload K dX8_feed_39 6 rfl ?_
            obtain ⟨v41, S41, e41, h⟩ := bd2 h
            refine j_cI (st := []) K (r_S (vs := [vI x6]) (n := 1) K (c_X8_isByte e41) dX8_feed_41 z991 z992 z13 z993 ⟨zd_X8_isByte, rfl, rfl, rfl, ⟨Nat.le_of_ble_eq_true rfl, Nat.le_of_ble_eq_true rfl⟩, Nat.le_of_ble_eq_true rfl, Nat.le_of_ble_eq_true rfl, Nat.le_of_ble_eq_true rfl⟩) rfl ?_
            refine j_if_ne K dX8_feed_44 (fun c44 => ?_) (fun c44 => ?_)
            · replace h := ie c44 h
              refine j_aload_n K dX8_feed_50 rfl 0 rfl ?_
              obtain ⟨v51, e51, h⟩ := bd h
              refine fgX8_76 K dX8_feed_51 e51 ?_
              refine j_iload_n K dX8_feed_54 rfl 1 rfl ?_
              refine j_iadd K dX8_feed_55 ?_
              refine j_sipush (v := (160 : Int32)) K dX8_feed_56 (by decide) ?_
              refine j_icmp_le K dX8_feed_59 (fun c59 => ?_) (fun c59 => ?_)
              · replace h := it c59 h
                refine j_iconst (v := (0 : Int32)) K dX8_feed_65 (by decide) ?_
                refine j_istore (lv' := [(7, vI (0 : Int32)), (0, vR (some o)), (1, vI x1), (2, vI x2), (3, vI x3), (4, vI x4), (5, vI x5), (6, vI x6)]) K dX8_feed_66 X.2.2.1 (by decide) rfl ?_
                exact j_sub [1, 2, 3, 4, 5, 6, 7, 0] rfl (w_X8_feed_68 K X _ _ _ h)
              · replace h := ie c59 h
                refine j_bipush (v := (-4 : Int32)) K dX8_feed_62 (by decide) ?_
                exact j_iret K X dX8_feed_64 h
            · replace h := it c44 h
              exact j_sub [] rfl (w_X8_feed_47 K X h)
theorem c_X8_feed {l : Launch} {fu : Nat} {S : Hp} {o : Nat} {x1 : Int32} {x2 : Int32} {x3 : Int32} {x4 : Int32} {x5 : Int32} {x6 : Int32} {res : Int32 × Hp} (h : F_X8_feed fu S o x1 x2 x3 x4 x5 x6 = some res) : Ct l yX8_feed cX8_feed 8 (some .int) (rmd 2 0 0) 0 0 [vR (some o), vI x1, vI x2, vI x3, vI x4, vI x5, vI x6] S (QI res) :=
  z_entry (by decide +kernel) (Nat.le_of_ble_eq_true rfl) (fun E ad K X => w_X8_feed K X h)

theorem dX8_two_0 : decode cX8_two 0 = .ok (.iload_n 0, 1) ∧ 0 + 1 = 1 := ⟨by decide +kernel, rfl⟩
theorem dX8_two_1 : decode cX8_two 1 = .ok (.tableswitch 101 11 17 #[43, 57, 101, 71, 82, 93, 97], 43) := by decide +kernel
theorem dX8_two_44 : decode cX8_two 44 = .ok (.iload_n 1, 1) ∧ 44 + 1 = 45 := ⟨by decide +kernel, rfl⟩
theorem dX8_two_45 : decode cX8_two 45 = .ok (.ifCond .ne 7, 3) ∧ 45 + 3 = 48 ∧ ((45 : Nat) : Int) + (7) = ((52 : Nat) : Int) := ⟨by decide +kernel, rfl, by decide⟩
theorem dX8_two_48 : decode cX8_two 48 = .ok (.iload_n 2, 1) ∧ 48 + 1 = 49 := ⟨by decide +kernel, rfl⟩
theorem dX8_two_49 : decode cX8_two 49 = .ok (.ifCond .eq 7, 3) ∧ 49 + 3 = 52 ∧ ((49 : Nat) : Int) + (7) = ((56 : Nat) : Int) := ⟨by decide +kernel, rfl, by decide⟩
theorem dX8_two_52 : decode cX8_two 52 = .ok (.iconst 1, 1) ∧ 52 + 1 = 53 := ⟨by decide +kernel, rfl⟩
theorem dX8_two_53 : decode cX8_two 53 = .ok (.goto 4, 3) ∧ ((53 : Nat) : Int) + (4) = ((57 : Nat) : Int) := ⟨by decide +kernel, by decide⟩
theorem dX8_two_56 : decode cX8_two 56 = .ok (.iconst 0, 1) ∧ 56 + 1 = 57 := ⟨by decide +kernel, rfl⟩
theorem dX8_two_57 : decode cX8_two 57 = .ok (.ireturn, 1) := by decide +kernel
theorem dX8_two_58 : decode cX8_two 58 = .ok (.iload_n 1, 1) ∧ 58 + 1 = 59 := ⟨by decide +kernel, rfl⟩
theorem dX8_two_59 : decode cX8_two 59 = .ok (.ifCond .eq 11, 3) ∧ 59 + 3 = 62 ∧ ((59 : Nat) : Int) + (11) = ((70 : Nat) : Int) := ⟨by decide +kernel, rfl, by decide⟩
theorem dX8_two_62 : decode cX8_two 62 = .ok (.iload_n 2, 1) ∧ 62 + 1 = 63 := ⟨by decide +kernel, rfl⟩
theorem dX8_two_63 : decode cX8_two 63 = .ok (.ifCond .eq 7, 3) ∧ 63 + 3 = 66 ∧ ((63 : Nat) : Int) + (7) = ((70 : Nat) : Int) := ⟨by decide +kernel, rfl, by decide⟩
theorem dX8_two_66 : decode cX8_two 66 = .ok (.iconst 1, 1) ∧ 66 + 1 = 67 := ⟨by decide +kernel, rfl⟩
theorem dX8_two_67 : decode cX8_two 67 = .ok (.goto 4, 3) ∧ ((67 : Nat) : Int) + (4) = ((71 : Nat) : Int) := ⟨by decide +kernel, by decide⟩
theorem dX8_two_70 : decode cX8_two 70 = .ok (.iconst 0, 1) ∧ 70 + 1 = 71 := ⟨by decide +kernel, rfl⟩
theorem dX8_two_71 : decode cX8_two 71 = .ok (.ireturn, 1) := by decide +kernel
theorem dX8_two_72 : decode cX8_two 72 = .ok (.iload_n 1, 1) ∧ 72 + 1 = 73 := ⟨by decide +kernel, rfl⟩
theorem dX8_two_73 : decode cX8_two 73 = .ok (.iload_n 2, 1) ∧ 73 + 1 = 74 := ⟨by decide +kernel, rfl⟩
theorem dX8_two_74 : decode cX8_two 74 = .ok (.if_icmp .ge 7, 3) ∧ 74 + 3 = 77 ∧ ((74 : Nat) : Int) + (7) = ((81 : Nat) : Int) := ⟨by decide +kernel, rfl, by decide⟩
theorem dX8_two_77 : decode cX8_two 77 = .ok (.iconst 1, 1) ∧ 77 + 1 = 78 := ⟨by decide +kernel, rfl⟩
theorem dX8_two_78 : decode cX8_two 78 = .ok (.goto 4, 3) ∧ ((78 : Nat) : Int) + (4) = ((82 : Nat) : Int) := ⟨by decide +kernel, by decide⟩
theorem dX8_two_81 : decode cX8_two 81 = .ok (.iconst 0, 1) ∧ 81 + 1 = 82 := ⟨by decide +kernel, rfl⟩
theorem dX8_two_82 : decode cX8_two 82 = .ok (.ireturn, 1) := by decide +kernel
theorem dX8_two_83 : decode cX8_two 83 = .ok (.iload_n 1, 1) ∧ 83 + 1 = 84 := ⟨by decide +kernel, rfl⟩
theorem dX8_two_84 : decode cX8_two 84 = .ok (.iload_n 2, 1) ∧ 84 + 1 = 85 := ⟨by decide +kernel, rfl⟩
theorem dX8_two_85 : decode cX8_two 85 = .ok (.if_icmp .ne 7, 3) ∧ 85 + 3 = 88 ∧ ((85 : Nat) : Int) + (7) = ((92 : Nat) : Int) := ⟨by decide +kernel, rfl, by decide⟩
theorem dX8_two_88 : decode cX8_two 88 = .ok (.iconst 1, 1) ∧ 88 + 1 = 89 := ⟨by decide +kernel, rfl⟩
theorem dX8_two_89 : decode cX8_two 89 = .ok (.goto 4, 3) ∧ ((89 : Nat) : Int) + (4) = ((93 : Nat) : Int) := ⟨by decide +kernel, by decide⟩
theorem dX8_two_92 : decode cX8_two 92 = .ok (.iconst 0, 1) ∧ 92 + 1 = 93 := ⟨by decide +kernel, rfl⟩
theorem dX8_two_93 : decode cX8_two 93 = .ok (.ireturn, 1) := by decide +kernel
theorem dX8_two_94 : decode cX8_two 94 = .ok (.iload_n 1, 1) ∧ 94 + 1 = 95 := ⟨by decide +kernel, rfl⟩
theorem dX8_two_95 : decode cX8_two 95 = .ok (.iload_n 2, 1) ∧ 95 + 1 = 96 := ⟨by decide +kernel, rfl⟩
theorem dX8_two_96 : decode cX8_two 96 = .ok (.iadd, 1) ∧ 96 + 1 = 97 := ⟨by decide +kernel, rfl⟩
theorem dX8_two_97 : decode cX8_two 97 = .ok (.ireturn, 1) := by decide +kernel
theorem dX8_two_98 : decode cX8_two 98 = .ok (.iload_n 1, 1) ∧ 98 + 1 = 99 := ⟨by decide +kernel, rfl⟩
theorem dX8_two_99 : decode cX8_two 99 = .ok (.iload_n 2, 1) ∧ 99 + 1 = 100 := ⟨by decide +kernel, rfl⟩
theorem dX8_two_100 : decode cX8_two 100 = .ok (.isub, 1) ∧ 100 + 1 = 101 := ⟨by decide +kernel, rfl⟩
theorem dX8_two_101 : decode cX8_two 101 = .ok (.ireturn, 1) := by decide +kernel
theorem dX8_two_102 : decode cX8_two 102 = .ok (.iload_n 1, 1) ∧ 102 + 1 = 103 := ⟨by decide +kernel, rfl⟩
theorem dX8_two_103 : decode cX8_two 103 = .ok (.iload_n 2, 1) ∧ 103 + 1 = 104 := ⟨by decide +kernel, rfl⟩
theorem dX8_two_104 : decode cX8_two 104 = .ok (.imul, 1) ∧ 104 + 1 = 105 := ⟨by decide +kernel, rfl⟩
theorem dX8_two_105 : decode cX8_two 105 = .ok (.ireturn, 1) := by decide +kernel
def B_X8_two_93 (S : Hp) (s0 : Int32) : Option (Int32 × Hp) :=
  some (s0, S)
set_option maxRecDepth 100000 in
set_option maxHeartbeats 4000000 in
theorem w_X8_two_93 {E : Cx} {l : Launch} {res : Int32 × Hp} {ad : Nat → Nat} {S : Hp} {s0 : Int32} (K : Kx E cX8_two RX8 (rmd 0 0 0)) (X : Bx E l yX8_two 3 (some .int) 0 0 ad (QI res)) (h : B_X8_two_93 S s0 = some res) : J E 0 0 93 [] [vI s0] S ad := by
  exact j_iret K X dX8_two_93 h
def B_X8_two_82 (S : Hp) (s0 : Int32) : Option (Int32 × Hp) :=
  some (s0, S)
set_option maxRecDepth 100000 in
set_option maxHeartbeats 4000000 in
theorem w_X8_two_82 {E : Cx} {l : Launch} {res : Int32 × Hp} {ad : Nat → Nat} {S : Hp} {s0 : Int32} (K : Kx E cX8_two RX8 (rmd 0 0 0)) (X : Bx E l yX8_two 3 (some .int) 0 0 ad (QI res)) (h : B_X8_two_82 S s0 = some res) : J E 0 0 82 [] [vI s0] S ad := by
  exact j_iret K X dX8_two_82 h
def B_X8_two_71 (S : Hp) (s0 : Int32) : Option (Int32 × Hp) :=
  some (s0, S)
set_option maxRecDepth 100000 in
set_option maxHeartbeats 4000000 in
theorem w_X8_two_71 {E : Cx} {l : Launch} {res : Int32 × Hp} {ad : Nat → Nat} {S : Hp} {s0 : Int32} (K : Kx E cX8_two RX8 (rmd 0 0 0)) (X : Bx E l yX8_two 3 (some .int) 0 0 ad (QI res)) (h : B_X8_two_71 S s0 = some res) : J E 0 0 71 [] [vI s0] S ad := by
  exact j_iret K X dX8_two_71 h
def B_X8_two_70 (S : Hp) : Option (Int32 × Hp) :=
  B_X8_two_71 S (0 : Int32)
set_option maxRecDepth 100000 in
set_option maxHeartbeats 4000000 in
theorem w_X8_two_70 {E : Cx} {l : Launch} {res : Int32 × Hp} {ad : Nat → Nat} {S : Hp} (K : Kx E cX8_two RX8 (rmd 0 0 0)) (X : Bx E l yX8_two 3 (some .int) 0 0 ad (QI res)) (h : B_X8_two_70 S = some res) : J E 0 0 70 [] [] S ad := by
  refine j_iconst (v := (0 : Int32)) K dX8_two_70 (by decide) ?_
  exact w_X8_two_71 K X h
def B_X8_two_57 (S : Hp) (s0 : Int32) : Option (Int32 × Hp) :=
  some (s0, S)
set_option maxRecDepth 100000 in
set_option maxHeartbeats 4000000 in
theorem w_X8_two_57 {E : Cx} {l : Launch} {res : Int32 × Hp} {ad : Nat → Nat} {S : Hp} {s0 : Int32} (K : Kx E cX8_two RX8 (rmd 0 0 0)) (X : Bx E l yX8_two 3 (some .int) 0 0 ad (QI res)) (h : B_X8_two_57 S s0 = some res) : J E 0 0 57 [] [vI s0] S ad := by
  exact j_iret K X dX8_two_57 h
def B_X8_two_52 (S : Hp) : Option (Int32 × Hp) :=
  B_X8_two_57 S (1 : Int32)
set_option maxRecDepth 100000 in
set_option maxHeartbeats 4000000 in
theorem w_X8_two_52 {E : Cx} {l : Launch} {res : Int32 × Hp} {ad : Nat → Nat} {S : Hp} (K : Kx E cX8_two RX8 (rmd 0 0 0)) (X : Bx E l yX8_two 3 (some .int) 0 0 ad (QI res)) (h : B_X8_two_52 S = some res) : J E 0 0 52 [] [] S ad := by
  refine j_iconst (v := (1 : Int32)) K dX8_two_52 (by decide) ?_
  refine j_goto K dX8_two_53 ?_
  exact w_X8_two_57 K X h
def F_X8_two (S : Hp) (x0 : Int32) (x1 : Int32) (x2 : Int32) : Option (Int32 × Hp) :=
  if x0 = 11 then
    if x1 = 0 then
      if x2 = 0 then
        B_X8_two_57 S (0 : Int32)
      else
        B_X8_two_52 S
    else
      B_X8_two_52 S
  else
  if x0 = 12 then
    if x1 = 0 then
      B_X8_two_70 S
    else
      if x2 = 0 then
        B_X8_two_70 S
      else
        B_X8_two_71 S (1 : Int32)
  else
  if x0 = 13 then
    some ((x1 * x2), S)
  else
  if x0 = 14 then
    if x2 ≤ x1 then
      B_X8_two_82 S (0 : Int32)
    else
      B_X8_two_82 S (1 : Int32)
  else
  if x0 = 15 then
    if x1 = x2 then
      B_X8_two_93 S (1 : Int32)
    else
      B_X8_two_93 S (0 : Int32)
  else
  if x0 = 16 then
    some ((x1 + x2), S)
  else
  if x0 = 17 then
    some ((x1 - x2), S)
  else
  some ((x1 * x2), S)
set_option maxRecDepth 100000 in
set_option maxHeartbeats 4000000 in
theorem w_X8_two {E : Cx} {l : Launch} {res : Int32 × Hp} {ad : Nat → Nat} {S : Hp} {x0 : Int32} {x1 : Int32} {x2 : Int32} (K : Kx E cX8_two RX8 (rmd 0 0 0)) (X : Bx E l yX8_two 3 (some .int) 0 0 ad (QI res)) (h : F_X8_two S x0 x1 x2 = some res) : J E 0 0 0 [(0, vI x0), (1, vI x1), (2, vI x2)] [] S ad := by
  refine j_iload_n K dX8_two_0 rfl 0 rfl ?_
  by_cases c1_11 : x0 = 11
  · replace h := it c1_11 h
    have t1 : x0.toInt = 11 := by rw [c1_11]; rfl
    refine j_tin (tgt := 44) K dX8_two_1 (by rw [t1]; decide) (by rw [t1]; decide) (by rw [t1]; rfl) (by decide) ?_
    refine j_iload_n K dX8_two_44 rfl 1 rfl ?_
    refine j_if_ne K dX8_two_45 (fun c45 => ?_) (fun c45 => ?_)
    · replace h := ie c45 h
      exact j_sub [] rfl (w_X8_two_52 K X h)
    · replace h := it c45 h
      refine j_iload_n K dX8_two_48 rfl 2 rfl ?_
      refine j_if_eq K dX8_two_49 (fun c49 => ?_) (fun c49 => ?_)
      · replace h := it c49 h
        refine j_iconst (v := (0 : Int32)) K dX8_two_56 (by decide) ?_
        exact j_sub [] rfl (w_X8_two_57 K X h)
      · replace h := ie c49 h
        exact j_sub [] rfl (w_X8_two_52 K X h)
  replace h := ie c1_11 h
  by_cases c1_12 : x0 = 12
  · replace h := it c1_12 h
    have t1 : x0.toInt = 12 := by rw [c1_12]; rfl
    refine j_tin (tgt := 58) K dX8_two_1 (by rw [t1]; decide) (by rw [t1]; decide) (by rw [t1]; rfl) (by decide) ?_
    refine j_iload_n K dX8_two_58 rfl 1 rfl ?_
    refine j_if_eq K dX8_two_59 (fun c59 => ?_) (fun c59 => ?_)
    · replace h := it c59 h
      exact j_sub [] rfl (w_X8_two_70 K X h)
    · replace h := ie c59 h
      refine j_iload_n K dX8_two_62 rfl 2 rfl ?_
      refine j_if_eq K dX8_two_63 (fun c63 => ?_) (fun c63 => ?_)
      · replace h := it c63 h
        exact j_sub [] rfl (w_X8_two_70 K X h)
      · replace h := ie c63 h
        refine j_iconst (v := (1 : Int32)) K dX8_two_66 (by decide) ?_
        refine j_goto K dX8_two_67 ?_
        exact j_sub [] rfl (w_X8_two_71 K X h)
  replace h := ie c1_12 h
  by_cases c1_13 : x0 = 13
  · replace h := it c1_13 h
    have t1 : x0.toInt = 13 := by rw [c1_13]; rfl
    refine j_tin (tgt := 102) K dX8_two_1 (by rw [t1]; decide) (by rw [t1]; decide) (by rw [t1]; rfl) (by decide) ?_
    refine j_iload_n K dX8_two_102 rfl 1 rfl ?_
    refine j_iload_n K dX8_two_103 rfl 2 rfl ?_
    refine j_imul K dX8_two_104 ?_
    exact j_iret K X dX8_two_105 h
  replace h := ie c1_13 h
  by_cases c1_14 : x0 = 14
  · replace h := it c1_14 h
    have t1 : x0.toInt = 14 := by rw [c1_14]; rfl
    refine j_tin (tgt := 72) K dX8_two_1 (by rw [t1]; decide) (by rw [t1]; decide) (by rw [t1]; rfl) (by decide) ?_
    refine j_iload_n K dX8_two_72 rfl 1 rfl ?_
    refine j_iload_n K dX8_two_73 rfl 2 rfl ?_
    refine j_icmp_ge K dX8_two_74 (fun c74 => ?_) (fun c74 => ?_)
    · replace h := it c74 h
      refine j_iconst (v := (0 : Int32)) K dX8_two_81 (by decide) ?_
      exact j_sub [] rfl (w_X8_two_82 K X h)
    · replace h := ie c74 h
      refine j_iconst (v := (1 : Int32)) K dX8_two_77 (by decide) ?_
      refine j_goto K dX8_two_78 ?_
      exact j_sub [] rfl (w_X8_two_82 K X h)
  replace h := ie c1_14 h
  by_cases c1_15 : x0 = 15
  · replace h := it c1_15 h
    have t1 : x0.toInt = 15 := by rw [c1_15]; rfl
    refine j_tin (tgt := 83) K dX8_two_1 (by rw [t1]; decide) (by rw [t1]; decide) (by rw [t1]; rfl) (by decide) ?_
    refine j_iload_n K dX8_two_83 rfl 1 rfl ?_
    refine j_iload_n K dX8_two_84 rfl 2 rfl ?_
    refine j_icmp_ne K dX8_two_85 (fun c85 => ?_) (fun c85 => ?_)
    · replace h := ie c85 h
      refine j_iconst (v := (0 : Int32)) K dX8_two_92 (by decide) ?_
      exact j_sub [] rfl (w_X8_two_93 K X h)
    · replace h := it c85 h
      refine j_iconst (v := (1 : Int32)) K dX8_two_88 (by decide) ?_
      refine j_goto K dX8_two_89 ?_
      exact j_sub [] rfl (w_X8_two_93 K X h)
  replace h := ie c1_15 h
  by_cases c1_16 : x0 = 16
  · replace h := it c1_16 h
    have t1 : x0.toInt = 16 := by rw [c1_16]; rfl
    refine j_tin (tgt := 94) K dX8_two_1 (by rw [t1]; decide) (by rw [t1]; decide) (by rw [t1]; rfl) (by decide) ?_
    refine j_iload_n K dX8_two_94 rfl 1 rfl ?_
    refine j_iload_n K dX8_two_95 rfl 2 rfl ?_
    refine j_iadd K dX8_two_96 ?_
    exact j_iret K X dX8_two_97 h
  replace h := ie c1_16 h
  by_cases c1_17 : x0 = 17
  · replace h := it c1_17 h
    have t1 : x0.toInt = 17 := by rw [c1_17]; rfl
    refine j_tin (tgt := 98) K dX8_two_1 (by rw [t1]; decide) (by rw [t1]; decide) (by rw [t1]; rfl) (by decide) ?_
    refine j_iload_n K dX8_two_98 rfl 1 rfl ?_
    refine j_iload_n K dX8_two_99 rfl 2 rfl ?_
    refine j_isub K dX8_two_100 ?_
    exact j_iret K X dX8_two_101 h
  replace h := ie c1_17 h
  have t1_11 : x0.toInt ≠ 11 := swn rfl c1_11
  have t1_12 : x0.toInt ≠ 12 := swn rfl c1_12
  have t1_13 : x0.toInt ≠ 13 := swn rfl c1_13
  have t1_14 : x0.toInt ≠ 14 := swn rfl c1_14
  have t1_15 : x0.toInt ≠ 15 := swn rfl c1_15
  have t1_16 : x0.toInt ≠ 16 := swn rfl c1_16
  have t1_17 : x0.toInt ≠ 17 := swn rfl c1_17
  refine j_tout (tgt := 102) K dX8_two_1 (by omega) (by decide) ?_
  refine j_iload_n K dX8_two_102 rfl 1 rfl ?_
  refine j_iload_n K dX8_two_103 rfl 2 rfl ?_
  refine j_imul K dX8_two_104 ?_
  exact j_iret K X dX8_two_105 h
theorem c_X8_two {l : Launch} {S : Hp} {x0 : Int32} {x1 : Int32} {x2 : Int32} {res : Int32 × Hp} (h : F_X8_two S x0 x1 x2 = some res) : Ct l yX8_two cX8_two 3 (some .int) (rmd 0 0 0) 0 0 [vI x0, vI x1, vI x2] S (QI res) :=
  z_entry (by decide +kernel) (Nat.le_of_ble_eq_true rfl) (fun E ad K X => w_X8_two K X h)

theorem dX8_says_0 : decode cX8_says 0 = .ok (.iconst 0, 1) ∧ 0 + 1 = 1 := ⟨by decide +kernel, rfl⟩
theorem dX8_says_1 : decode cX8_says 1 = .ok (.istore_n 2, 1) ∧ 1 + 1 = 2 := ⟨by decide +kernel, rfl⟩
theorem dX8_says_2 : decode cX8_says 2 = .ok (.aload_n 0, 1) ∧ 2 + 1 = 3 := ⟨by decide +kernel, rfl⟩
theorem dX8_says_3 : decode cX8_says 3 = .ok (.getfield 34, 3) ∧ 3 + 3 = 6 := ⟨by decide +kernel, rfl⟩
theorem dX8_says_6 : decode cX8_says 6 = .ok (.iconst 4, 1) ∧ 6 + 1 = 7 := ⟨by decide +kernel, rfl⟩
theorem dX8_says_7 : decode cX8_says 7 = .ok (.aload_n 0, 1) ∧ 7 + 1 = 8 := ⟨by decide +kernel, rfl⟩
theorem dX8_says_8 : decode cX8_says 8 = .ok (.getfield 100, 3) ∧ 8 + 3 = 11 := ⟨by decide +kernel, rfl⟩
theorem dX8_says_11 : decode cX8_says 11 = .ok (.imul, 1) ∧ 11 + 1 = 12 := ⟨by decide +kernel, rfl⟩
theorem dX8_says_12 : decode cX8_says 12 = .ok (.iload_n 1, 1) ∧ 12 + 1 = 13 := ⟨by decide +kernel, rfl⟩
theorem dX8_says_13 : decode cX8_says 13 = .ok (.iadd, 1) ∧ 13 + 1 = 14 := ⟨by decide +kernel, rfl⟩
theorem dX8_says_14 : decode cX8_says 14 = .ok (.iaload, 1) ∧ 14 + 1 = 15 := ⟨by decide +kernel, rfl⟩
theorem dX8_says_15 : decode cX8_says 15 = .ok (.istore_n 3, 1) ∧ 15 + 1 = 16 := ⟨by decide +kernel, rfl⟩
theorem dX8_says_16 : decode cX8_says 16 = .ok (.iload_n 3, 1) ∧ 16 + 1 = 17 := ⟨by decide +kernel, rfl⟩
theorem dX8_says_17 : decode cX8_says 17 = .ok (.aload_n 0, 1) ∧ 17 + 1 = 18 := ⟨by decide +kernel, rfl⟩
theorem dX8_says_18 : decode cX8_says 18 = .ok (.getfield 34, 3) ∧ 18 + 3 = 21 := ⟨by decide +kernel, rfl⟩
theorem dX8_says_21 : decode cX8_says 21 = .ok (.iconst 4, 1) ∧ 21 + 1 = 22 := ⟨by decide +kernel, rfl⟩
theorem dX8_says_22 : decode cX8_says 22 = .ok (.aload_n 0, 1) ∧ 22 + 1 = 23 := ⟨by decide +kernel, rfl⟩
theorem dX8_says_23 : decode cX8_says 23 = .ok (.getfield 100, 3) ∧ 23 + 3 = 26 := ⟨by decide +kernel, rfl⟩
theorem dX8_says_26 : decode cX8_says 26 = .ok (.imul, 1) ∧ 26 + 1 = 27 := ⟨by decide +kernel, rfl⟩
theorem dX8_says_27 : decode cX8_says 27 = .ok (.iload_n 1, 1) ∧ 27 + 1 = 28 := ⟨by decide +kernel, rfl⟩
theorem dX8_says_28 : decode cX8_says 28 = .ok (.iadd, 1) ∧ 28 + 1 = 29 := ⟨by decide +kernel, rfl⟩
theorem dX8_says_29 : decode cX8_says 29 = .ok (.iconst 1, 1) ∧ 29 + 1 = 30 := ⟨by decide +kernel, rfl⟩
theorem dX8_says_30 : decode cX8_says 30 = .ok (.iadd, 1) ∧ 30 + 1 = 31 := ⟨by decide +kernel, rfl⟩
theorem dX8_says_31 : decode cX8_says 31 = .ok (.iaload, 1) ∧ 31 + 1 = 32 := ⟨by decide +kernel, rfl⟩
theorem dX8_says_32 : decode cX8_says 32 = .ok (.if_icmp .ge 165, 3) ∧ 32 + 3 = 35 ∧ ((32 : Nat) : Int) + (165) = ((197 : Nat) : Int) := ⟨by decide +kernel, rfl, by decide⟩
theorem dX8_says_35 : decode cX8_says 35 = .ok (.aload_n 0, 1) ∧ 35 + 1 = 36 := ⟨by decide +kernel, rfl⟩
theorem dX8_says_36 : decode cX8_says 36 = .ok (.getfield 31, 3) ∧ 36 + 3 = 39 := ⟨by decide +kernel, rfl⟩
theorem dX8_says_39 : decode cX8_says 39 = .ok (.sipush 200, 3) ∧ 39 + 3 = 42 := ⟨by decide +kernel, rfl⟩
theorem dX8_says_42 : decode cX8_says 42 = .ok (.aload_n 0, 1) ∧ 42 + 1 = 43 := ⟨by decide +kernel, rfl⟩
theorem dX8_says_43 : decode cX8_says 43 = .ok (.getfield 100, 3) ∧ 43 + 3 = 46 := ⟨by decide +kernel, rfl⟩
theorem dX8_says_46 : decode cX8_says 46 = .ok (.imul, 1) ∧ 46 + 1 = 47 := ⟨by decide +kernel, rfl⟩
theorem dX8_says_47 : decode cX8_says 47 = .ok (.iload_n 3, 1) ∧ 47 + 1 = 48 := ⟨by decide +kernel, rfl⟩
theorem dX8_says_48 : decode cX8_says 48 = .ok (.iadd, 1) ∧ 48 + 1 = 49 := ⟨by decide +kernel, rfl⟩
theorem dX8_says_49 : decode cX8_says 49 = .ok (.iaload, 1) ∧ 49 + 1 = 50 := ⟨by decide +kernel, rfl⟩
theorem dX8_says_50 : decode cX8_says 50 = .ok (.istore 4, 2) ∧ 50 + 2 = 52 := ⟨by decide +kernel, rfl⟩
theorem dX8_says_52 : decode cX8_says 52 = .ok (.iload 4, 2) ∧ 52 + 2 = 54 := ⟨by decide +kernel, rfl⟩
theorem dX8_says_54 : decode cX8_says 54 = .ok (.ldc 155, 2) ∧ 54 + 2 = 56 := ⟨by decide +kernel, rfl⟩
theorem dX8_says_56 : decode cX8_says 56 = .ok (.if_icmp .ge 10, 3) ∧ 56 + 3 = 59 ∧ ((56 : Nat) : Int) + (10) = ((66 : Nat) : Int) := ⟨by decide +kernel, rfl, by decide⟩
theorem dX8_says_59 : decode cX8_says 59 = .ok (.iload 4, 2) ∧ 59 + 2 = 61 := ⟨by decide +kernel, rfl⟩
theorem dX8_says_61 : decode cX8_says 61 = .ok (.bipush 11, 2) ∧ 61 + 2 = 63 := ⟨by decide +kernel, rfl⟩
theorem dX8_says_63 : decode cX8_says 63 = .ok (.if_icmp .ge 37, 3) ∧ 63 + 3 = 66 ∧ ((63 : Nat) : Int) + (37) = ((100 : Nat) : Int) := ⟨by decide +kernel, rfl, by decide⟩
theorem dX8_says_66 : decode cX8_says 66 = .ok (.aload_n 0, 1) ∧ 66 + 1 = 67 := ⟨by decide +kernel, rfl⟩
theorem dX8_says_67 : decode cX8_says 67 = .ok (.getfield 61, 3) ∧ 67 + 3 = 70 := ⟨by decide +kernel, rfl⟩
theorem dX8_says_70 : decode cX8_says 70 = .ok (.iload_n 2, 1) ∧ 70 + 1 = 71 := ⟨by decide +kernel, rfl⟩
theorem dX8_says_71 : decode cX8_says 71 = .ok (.iload 4, 2) ∧ 71 + 2 = 73 := ⟨by decide +kernel, rfl⟩
theorem dX8_says_73 : decode cX8_says 73 = .ok (.bipush 11, 2) ∧ 73 + 2 = 75 := ⟨by decide +kernel, rfl⟩
theorem dX8_says_75 : decode cX8_says 75 = .ok (.if_icmp .ge 13, 3) ∧ 75 + 3 = 78 ∧ ((75 : Nat) : Int) + (13) = ((88 : Nat) : Int) := ⟨by decide +kernel, rfl, by decide⟩
theorem dX8_says_78 : decode cX8_says 78 = .ok (.aload_n 0, 1) ∧ 78 + 1 = 79 := ⟨by decide +kernel, rfl⟩
theorem dX8_says_79 : decode cX8_says 79 = .ok (.getfield 64, 3) ∧ 79 + 3 = 82 := ⟨by decide +kernel, rfl⟩
theorem dX8_says_82 : decode cX8_says 82 = .ok (.iload 4, 2) ∧ 82 + 2 = 84 := ⟨by decide +kernel, rfl⟩
theorem dX8_says_84 : decode cX8_says 84 = .ok (.iaload, 1) ∧ 84 + 1 = 85 := ⟨by decide +kernel, rfl⟩
theorem dX8_says_85 : decode cX8_says 85 = .ok (.goto 8, 3) ∧ ((85 : Nat) : Int) + (8) = ((93 : Nat) : Int) := ⟨by decide +kernel, by decide⟩
theorem dX8_says_88 : decode cX8_says 88 = .ok (.iload 4, 2) ∧ 88 + 2 = 90 := ⟨by decide +kernel, rfl⟩
theorem dX8_says_90 : decode cX8_says 90 = .ok (.ldc 155, 2) ∧ 90 + 2 = 92 := ⟨by decide +kernel, rfl⟩
theorem dX8_says_92 : decode cX8_says 92 = .ok (.isub, 1) ∧ 92 + 1 = 93 := ⟨by decide +kernel, rfl⟩
theorem dX8_says_93 : decode cX8_says 93 = .ok (.iastore, 1) ∧ 93 + 1 = 94 := ⟨by decide +kernel, rfl⟩
theorem dX8_says_94 : decode cX8_says 94 = .ok (.iinc 2 1, 3) ∧ 94 + 3 = 97 := ⟨by decide +kernel, rfl⟩
theorem dX8_says_97 : decode cX8_says 97 = .ok (.goto 94, 3) ∧ ((97 : Nat) : Int) + (94) = ((191 : Nat) : Int) := ⟨by decide +kernel, by decide⟩
theorem dX8_says_100 : decode cX8_says 100 = .ok (.iload 4, 2) ∧ 100 + 2 = 102 := ⟨by decide +kernel, rfl⟩
theorem dX8_says_102 : decode cX8_says 102 = .ok (.bipush 13, 2) ∧ 102 + 2 = 104 := ⟨by decide +kernel, rfl⟩
theorem dX8_says_104 : decode cX8_says 104 = .ok (.if_icmp .ne 30, 3) ∧ 104 + 3 = 107 ∧ ((104 : Nat) : Int) + (30) = ((134 : Nat) : Int) := ⟨by decide +kernel, rfl, by decide⟩
theorem dX8_says_107 : decode cX8_says 107 = .ok (.aload_n 0, 1) ∧ 107 + 1 = 108 := ⟨by decide +kernel, rfl⟩
theorem dX8_says_108 : decode cX8_says 108 = .ok (.getfield 61, 3) ∧ 108 + 3 = 111 := ⟨by decide +kernel, rfl⟩
theorem dX8_says_111 : decode cX8_says 111 = .ok (.iload_n 2, 1) ∧ 111 + 1 = 112 := ⟨by decide +kernel, rfl⟩
theorem dX8_says_112 : decode cX8_says 112 = .ok (.iconst 1, 1) ∧ 112 + 1 = 113 := ⟨by decide +kernel, rfl⟩
theorem dX8_says_113 : decode cX8_says 113 = .ok (.isub, 1) ∧ 113 + 1 = 114 := ⟨by decide +kernel, rfl⟩
theorem dX8_says_114 : decode cX8_says 114 = .ok (.aload_n 0, 1) ∧ 114 + 1 = 115 := ⟨by decide +kernel, rfl⟩
theorem dX8_says_115 : decode cX8_says 115 = .ok (.getfield 61, 3) ∧ 115 + 3 = 118 := ⟨by decide +kernel, rfl⟩
theorem dX8_says_118 : decode cX8_says 118 = .ok (.iload_n 2, 1) ∧ 118 + 1 = 119 := ⟨by decide +kernel, rfl⟩
theorem dX8_says_119 : decode cX8_says 119 = .ok (.iconst 1, 1) ∧ 119 + 1 = 120 := ⟨by decide +kernel, rfl⟩
theorem dX8_says_120 : decode cX8_says 120 = .ok (.isub, 1) ∧ 120 + 1 = 121 := ⟨by decide +kernel, rfl⟩
theorem dX8_says_121 : decode cX8_says 121 = .ok (.iaload, 1) ∧ 121 + 1 = 122 := ⟨by decide +kernel, rfl⟩
theorem dX8_says_122 : decode cX8_says 122 = .ok (.ifCond .ne 7, 3) ∧ 122 + 3 = 125 ∧ ((122 : Nat) : Int) + (7) = ((129 : Nat) : Int) := ⟨by decide +kernel, rfl, by decide⟩
theorem dX8_says_125 : decode cX8_says 125 = .ok (.iconst 1, 1) ∧ 125 + 1 = 126 := ⟨by decide +kernel, rfl⟩
theorem dX8_says_126 : decode cX8_says 126 = .ok (.goto 4, 3) ∧ ((126 : Nat) : Int) + (4) = ((130 : Nat) : Int) := ⟨by decide +kernel, by decide⟩
theorem dX8_says_129 : decode cX8_says 129 = .ok (.iconst 0, 1) ∧ 129 + 1 = 130 := ⟨by decide +kernel, rfl⟩
theorem dX8_says_130 : decode cX8_says 130 = .ok (.iastore, 1) ∧ 130 + 1 = 131 := ⟨by decide +kernel, rfl⟩
theorem dX8_says_131 : decode cX8_says 131 = .ok (.goto 60, 3) ∧ ((131 : Nat) : Int) + (60) = ((191 : Nat) : Int) := ⟨by decide +kernel, by decide⟩
theorem dX8_says_134 : decode cX8_says 134 = .ok (.iload 4, 2) ∧ 134 + 2 = 136 := ⟨by decide +kernel, rfl⟩
theorem dX8_says_136 : decode cX8_says 136 = .ok (.bipush 19, 2) ∧ 136 + 2 = 138 := ⟨by decide +kernel, rfl⟩
theorem dX8_says_138 : decode cX8_says 138 = .ok (.if_icmp .ne 23, 3) ∧ 138 + 3 = 141 ∧ ((138 : Nat) : Int) + (23) = ((161 : Nat) : Int) := ⟨by decide +kernel, rfl, by decide⟩
theorem dX8_says_141 : decode cX8_says 141 = .ok (.aload_n 0, 1) ∧ 141 + 1 = 142 := ⟨by decide +kernel, rfl⟩
theorem dX8_says_142 : decode cX8_says 142 = .ok (.getfield 61, 3) ∧ 142 + 3 = 145 := ⟨by decide +kernel, rfl⟩
theorem dX8_says_145 : decode cX8_says 145 = .ok (.iload_n 2, 1) ∧ 145 + 1 = 146 := ⟨by decide +kernel, rfl⟩
theorem dX8_says_146 : decode cX8_says 146 = .ok (.iconst 1, 1) ∧ 146 + 1 = 147 := ⟨by decide +kernel, rfl⟩
theorem dX8_says_147 : decode cX8_says 147 = .ok (.isub, 1) ∧ 147 + 1 = 148 := ⟨by decide +kernel, rfl⟩
theorem dX8_says_148 : decode cX8_says 148 = .ok (.aload_n 0, 1) ∧ 148 + 1 = 149 := ⟨by decide +kernel, rfl⟩
theorem dX8_says_149 : decode cX8_says 149 = .ok (.getfield 61, 3) ∧ 149 + 3 = 152 := ⟨by decide +kernel, rfl⟩
theorem dX8_says_152 : decode cX8_says 152 = .ok (.iload_n 2, 1) ∧ 152 + 1 = 153 := ⟨by decide +kernel, rfl⟩
theorem dX8_says_153 : decode cX8_says 153 = .ok (.iconst 1, 1) ∧ 153 + 1 = 154 := ⟨by decide +kernel, rfl⟩
theorem dX8_says_154 : decode cX8_says 154 = .ok (.isub, 1) ∧ 154 + 1 = 155 := ⟨by decide +kernel, rfl⟩
theorem dX8_says_155 : decode cX8_says 155 = .ok (.iaload, 1) ∧ 155 + 1 = 156 := ⟨by decide +kernel, rfl⟩
theorem dX8_says_156 : decode cX8_says 156 = .ok (.ineg, 1) ∧ 156 + 1 = 157 := ⟨by decide +kernel, rfl⟩
theorem dX8_says_157 : decode cX8_says 157 = .ok (.iastore, 1) ∧ 157 + 1 = 158 := ⟨by decide +kernel, rfl⟩
theorem dX8_says_158 : decode cX8_says 158 = .ok (.goto 33, 3) ∧ ((158 : Nat) : Int) + (33) = ((191 : Nat) : Int) := ⟨by decide +kernel, by decide⟩
theorem dX8_says_161 : decode cX8_says 161 = .ok (.iinc 2 (-1), 3) ∧ 161 + 3 = 164 := ⟨by decide +kernel, rfl⟩
theorem dX8_says_164 : decode cX8_says 164 = .ok (.aload_n 0, 1) ∧ 164 + 1 = 165 := ⟨by decide +kernel, rfl⟩
theorem dX8_says_165 : decode cX8_says 165 = .ok (.getfield 61, 3) ∧ 165 + 3 = 168 := ⟨by decide +kernel, rfl⟩
theorem dX8_says_168 : decode cX8_says 168 = .ok (.iload_n 2, 1) ∧ 168 + 1 = 169 := ⟨by decide +kernel, rfl⟩
theorem dX8_says_169 : decode cX8_says 169 = .ok (.iconst 1, 1) ∧ 169 + 1 = 170 := ⟨by decide +kernel, rfl⟩
theorem dX8_says_170 : decode cX8_says 170 = .ok (.isub, 1) ∧ 170 + 1 = 171 := ⟨by decide +kernel, rfl⟩
theorem dX8_says_171 : decode cX8_says 171 = .ok (.iload 4, 2) ∧ 171 + 2 = 173 := ⟨by decide +kernel, rfl⟩
theorem dX8_says_173 : decode cX8_says 173 = .ok (.aload_n 0, 1) ∧ 173 + 1 = 174 := ⟨by decide +kernel, rfl⟩
theorem dX8_says_174 : decode cX8_says 174 = .ok (.getfield 61, 3) ∧ 174 + 3 = 177 := ⟨by decide +kernel, rfl⟩
theorem dX8_says_177 : decode cX8_says 177 = .ok (.iload_n 2, 1) ∧ 177 + 1 = 178 := ⟨by decide +kernel, rfl⟩
theorem dX8_says_178 : decode cX8_says 178 = .ok (.iconst 1, 1) ∧ 178 + 1 = 179 := ⟨by decide +kernel, rfl⟩
theorem dX8_says_179 : decode cX8_says 179 = .ok (.isub, 1) ∧ 179 + 1 = 180 := ⟨by decide +kernel, rfl⟩
theorem dX8_says_180 : decode cX8_says 180 = .ok (.iaload, 1) ∧ 180 + 1 = 181 := ⟨by decide +kernel, rfl⟩
theorem dX8_says_181 : decode cX8_says 181 = .ok (.aload_n 0, 1) ∧ 181 + 1 = 182 := ⟨by decide +kernel, rfl⟩
theorem dX8_says_182 : decode cX8_says 182 = .ok (.getfield 61, 3) ∧ 182 + 3 = 185 := ⟨by decide +kernel, rfl⟩
theorem dX8_says_185 : decode cX8_says 185 = .ok (.iload_n 2, 1) ∧ 185 + 1 = 186 := ⟨by decide +kernel, rfl⟩
theorem dX8_says_186 : decode cX8_says 186 = .ok (.iaload, 1) ∧ 186 + 1 = 187 := ⟨by decide +kernel, rfl⟩
theorem dX8_says_187 : decode cX8_says 187 = .ok (.invokestatic 169, 3) := by decide +kernel
theorem dX8_says_190 : decode cX8_says 190 = .ok (.iastore, 1) ∧ 190 + 1 = 191 := ⟨by decide +kernel, rfl⟩
theorem dX8_says_191 : decode cX8_says 191 = .ok (.iinc 3 1, 3) ∧ 191 + 3 = 194 := ⟨by decide +kernel, rfl⟩
theorem dX8_says_194 : decode cX8_says 194 = .ok (.goto (-178), 3) ∧ ((194 : Nat) : Int) + (-178) = ((16 : Nat) : Int) := ⟨by decide +kernel, by decide⟩
theorem dX8_says_197 : decode cX8_says 197 = .ok (.aload_n 0, 1) ∧ 197 + 1 = 198 := ⟨by decide +kernel, rfl⟩
theorem dX8_says_198 : decode cX8_says 198 = .ok (.getfield 61, 3) ∧ 198 + 3 = 201 := ⟨by decide +kernel, rfl⟩
theorem dX8_says_201 : decode cX8_says 201 = .ok (.iconst 0, 1) ∧ 201 + 1 = 202 := ⟨by decide +kernel, rfl⟩
theorem dX8_says_202 : decode cX8_says 202 = .ok (.iaload, 1) ∧ 202 + 1 = 203 := ⟨by decide +kernel, rfl⟩
theorem dX8_says_203 : decode cX8_says 203 = .ok (.ireturn, 1) := by decide +kernel
def B_X8_says_191 (k16 : Hp → Int32 → Int32 → Option (Int32 × Hp)) (fu : Nat) (o : Nat) (S : Hp) (x1 : Int32) (x2 : Int32) (x3 : Int32) : Option (Int32 × Hp) :=
  k16 S x2 (x3 + (1 : Int32))
set_option maxRecDepth 100000 in
set_option maxHeartbeats 4000000 in
theorem w_X8_says_191 {E : Cx} {l : Launch} {res : Int32 × Hp} {ad : Nat → Nat} {k16 : Hp → Int32 → Int32 → Option (Int32 × Hp)} {fu : Nat} {o : Nat} {S : Hp} {x1 : Int32} {x2 : Int32} {x3 : Int32} (K : Kx E cX8_says RX8 (rmd 1 0 0)) (X : Bx E l yX8_says 5 (some .int) 0 0 ad (QI res)) (hk16 : ∀ (S : Hp) (x2 : Int32) (x3 : Int32), k16 S x2 x3 = some res → J E 0 0 16 [(0, vR (some o)), (1, vI x1), (2, vI x2), (3, vI x3)] [] S ad) (h : B_X8_says_191 k16 fu o S x1 x2 x3 = some res) : J E 0 0 191 [(0, vR (some o)), (1, vI x1), (2, vI x2), (3, vI x3)] [] S ad := by
  refine j_iinc (q := 3) (v := (x3 + (1 : Int32))) (lv' := [(3, vI (x3 + (1 : Int32))), (0, vR (some o)), (1, vI x1), (2, vI x2)]) K dX8_says_191 rfl rfl X.2.2.1 (by decide) rfl ?_
  refine j_goto K dX8_says_194 ?_
  exact j_sub [1, 2, 3, 0] rfl (hk16 _ _ _ h)
def B_X8_says_93 (k16 : Hp → Int32 → Int32 → Option (Int32 × Hp)) (fu : Nat) (o : Nat) (S : Hp) (x1 : Int32) (x2 : Int32) (x3 : Int32) (s0 : Int32) (s1 : Int32) (s2 : Option Nat) : Option (Int32 × Hp) :=
  (aP S s2 s1 s0).bind fun S93 =>
  B_X8_says_191 k16 fu o S93 x1 (x2 + (1 : Int32)) x3
set_option maxRecDepth 100000 in
set_option maxHeartbeats 4000000 in
theorem w_X8_says_93 {E : Cx} {l : Launch} {res : Int32 × Hp} {ad : Nat → Nat} {k16 : Hp → Int32 → Int32 → Option (Int32 × Hp)} {fu : Nat} {o : Nat} {S : Hp} {x1 : Int32} {x2 : Int32} {x3 : Int32} {s0 : Int32} {s1 : Int32} {s2 : Option Nat} (K : Kx E cX8_says RX8 (rmd 1 0 0)) (X : Bx E l yX8_says 5 (some .int) 0 0 ad (QI res)) (hk16 : ∀ (S : Hp) (x2 : Int32) (x3 : Int32), k16 S x2 x3 = some res → J E 0 0 16 [(0, vR (some o)), (1, vI x1), (2, vI x2), (3, vI x3)] [] S ad) (h : B_X8_says_93 k16 fu o S x1 x2 x3 s0 s1 s2 = some res) : J E 0 0 93 [(0, vR (some o)), (1, vI x1), (2, vI x2), (3, vI x3)] [vI s0, vI s1, vR s2] S ad := by
  obtain ⟨S93, e93, h⟩ := bd h
  refine j_aP K dX8_says_93 e93 ?_
  refine j_iinc (q := 2) (v := (x2 + (1 : Int32))) (lv' := [(2, vI (x2 + (1 : Int32))), (0, vR (some o)), (1, vI x1), (3, vI x3)]) K dX8_says_94 rfl rfl X.2.2.1 (by decide) rfl ?_
  refine j_goto K dX8_says_97 ?_
  exact j_sub [1, 2, 0, 3] rfl (w_X8_says_191 K X hk16 h)
def B_X8_says_66 (k16 : Hp → Int32 → Int32 → Option (Int32 × Hp)) (fu : Nat) (o : Nat) (S : Hp) (x1 : Int32) (x2 : Int32) (x3 : Int32) (x4 : Int32) : Option (Int32 × Hp) :=
  (gR S (some o) 6 31).bind fun v67 =>
  if (11 : Int32) ≤ x4 then
    B_X8_says_93 k16 fu o S x1 x2 x3 (x4 - (100000 : Int32)) x2 v67
  else
    (gR S (some o) 6 32).bind fun v79 =>
    (aG S v79 x4).bind fun v84 =>
    B_X8_says_93 k16 fu o S x1 x2 x3 v84 x2 v67
set_option maxRecDepth 100000 in
set_option maxHeartbeats 4000000 in
theorem w_X8_says_66 {E : Cx} {l : Launch} {res : Int32 × Hp} {ad : Nat → Nat} {k16 : Hp → Int32 → Int32 → Option (Int32 × Hp)} {fu : Nat} {o : Nat} {S : Hp} {x1 : Int32} {x2 : Int32} {x3 : Int32} {x4 : Int32} (K : Kx E cX8_says RX8 (rmd 1 0 0)) (X : Bx E l yX8_says 5 (some .int) 0 0 ad (QI res)) (hk16 : ∀ (S : Hp) (x2 : Int32) (x3 : Int32), k16 S x2 x3 = some res → J E 0 0 16 [(0, vR (some o)), (1, vI x1), (2, vI x2), (3, vI x3)] [] S ad) (h : B_X8_says_66 k16 fu o S x1 x2 x3 x4 = some res) : J E 0 0 66 [(0, vR (some o)), (1, vI x1), (2, vI x2), (3, vI x3), (4, vI x4)] [] S ad := by
  refine j_aload_n K dX8_says_66 rfl 0 rfl ?_
  obtain ⟨v67, e67, h⟩ := bd h
  refine fgX8_61 K dX8_says_67 e67 ?_
  refine j_iload_n K dX8_says_70 rfl 2 rfl ?_
  refine j_iload K dX8_says_71 4 rfl ?_
  refine j_bipush (v := (11 : Int32)) K dX8_says_73 (by decide) ?_
  refine j_icmp_ge K dX8_says_75 (fun c75 => ?_) (fun c75 => ?_)
  · replace h := it c75 h
    refine j_iload K dX8_says_88 4 rfl ?_
    refine j_ldc K dX8_says_90 z823 ?_
    refine j_isub K dX8_says_92 ?_
    exact j_sub [0, 1, 2, 3] rfl (w_X8_says_93 K X hk16 h)
  · replace h := ie c75 h
    refine j_aload_n K dX8_says_78 rfl 0 rfl ?_
    obtain ⟨v79, e79, h⟩ := bd h
    refine fgX8_64 K dX8_says_79 e79 ?_
    refine j_iload K dX8_says_82 4 rfl ?_
    obtain ⟨v84, e84, h⟩ := bd h
    refine j_aG K dX8_says_84 e84 ?_
    refine j_goto K dX8_says_85 ?_
    exact j_sub [0, 1, 2, 3] rfl (w_X8_says_93 K X hk16 h)
def B_X8_says_130 (k16 : Hp → Int32 → Int32 → Option (Int32 × Hp)) (fu : Nat) (o : Nat) (S : Hp) (x1 : Int32) (x2 : Int32) (x3 : Int32) (s0 : Int32) (s1 : Int32) (s2 : Option Nat) : Option (Int32 × Hp) :=
  (aP S s2 s1 s0).bind fun S130 =>
  B_X8_says_191 k16 fu o S130 x1 x2 x3
set_option maxRecDepth 100000 in
set_option maxHeartbeats 4000000 in
theorem w_X8_says_130 {E : Cx} {l : Launch} {res : Int32 × Hp} {ad : Nat → Nat} {k16 : Hp → Int32 → Int32 → Option (Int32 × Hp)} {fu : Nat} {o : Nat} {S : Hp} {x1 : Int32} {x2 : Int32} {x3 : Int32} {s0 : Int32} {s1 : Int32} {s2 : Option Nat} (K : Kx E cX8_says RX8 (rmd 1 0 0)) (X : Bx E l yX8_says 5 (some .int) 0 0 ad (QI res)) (hk16 : ∀ (S : Hp) (x2 : Int32) (x3 : Int32), k16 S x2 x3 = some res → J E 0 0 16 [(0, vR (some o)), (1, vI x1), (2, vI x2), (3, vI x3)] [] S ad) (h : B_X8_says_130 k16 fu o S x1 x2 x3 s0 s1 s2 = some res) : J E 0 0 130 [(0, vR (some o)), (1, vI x1), (2, vI x2), (3, vI x3)] [vI s0, vI s1, vR s2] S ad := by
  obtain ⟨S130, e130, h⟩ := bd h
  refine j_aP K dX8_says_130 e130 ?_
  refine j_goto K dX8_says_131 ?_
  exact w_X8_says_191 K X hk16 h
def L_X8_says_16 (k16 : Hp → Int32 → Int32 → Option (Int32 × Hp)) (fu : Nat) (o : Nat) (x1 : Int32) (S : Hp) (x2 : Int32) (x3 : Int32) : Option (Int32 × Hp) :=
  (gR S (some o) 6 12).bind fun v18 =>
  (gI S (some o) 6 14).bind fun v23 =>
  (aG S v18 ((((4 : Int32) * v23) + x1) + (1 : Int32))).bind fun v31 =>
  if v31 ≤ x3 then
    (gR S (some o) 6 31).bind fun v198 =>
    (aG S v198 (0 : Int32)).bind fun v202 =>
    some (v202, S)
  else
    (gR S (some o) 6 11).bind fun v36 =>
    (gI S (some o) 6 14).bind fun v43 =>
    (aG S v36 (((200 : Int32) * v43) + x3)).bind fun v49 =>
    if (100000 : Int32) ≤ v49 then
      B_X8_says_66 k16 fu o S x1 x2 x3 v49
    else
      if (11 : Int32) ≤ v49 then
        if v49 = (13 : Int32) then
          (gR S (some o) 6 31).bind fun v108 =>
          (gR S (some o) 6 31).bind fun v115 =>
          (aG S v115 (x2 - (1 : Int32))).bind fun v121 =>
          if v121 = 0 then
            B_X8_says_130 k16 fu o S x1 x2 x3 (1 : Int32) (x2 - (1 : Int32)) v108
          else
            B_X8_says_130 k16 fu o S x1 x2 x3 (0 : Int32) (x2 - (1 : Int32)) v108
        else
          if v49 = (19 : Int32) then
            (gR S (some o) 6 31).bind fun v142 =>
            (gR S (some o) 6 31).bind fun v149 =>
            (aG S v149 (x2 - (1 : Int32))).bind fun v155 =>
            (aP S v142 (x2 - (1 : Int32)) (-v155)).bind fun S157 =>
            B_X8_says_191 k16 fu o S157 x1 x2 x3
          else
            (gR S (some o) 6 31).bind fun v165 =>
            (gR S (some o) 6 31).bind fun v174 =>
            (aG S v174 ((x2 + (-1 : Int32)) - (1 : Int32))).bind fun v180 =>
            (gR S (some o) 6 31).bind fun v182 =>
            (aG S v182 (x2 + (-1 : Int32))).bind fun v186 =>
            b2 (F_X8_two S v49 v180 v186) fun v187 S187 =>
            (aP S187 v165 ((x2 + (-1 : Int32)) - (1 : Int32)) v187).bind fun S190 =>
            B_X8_says_191 k16 fu o S190 x1 (x2 + (-1 : Int32)) x3
      else
        B_X8_says_66 k16 fu o S x1 x2 x3 v49
set_option maxRecDepth 100000 in
set_option maxHeartbeats 4000000 in
theorem wl_X8_says_16 {E : Cx} {l : Launch} {res : Int32 × Hp} {ad : Nat → Nat} {k16 : Hp → Int32 → Int32 → Option (Int32 × Hp)} {fu : Nat} {o : Nat} {S : Hp} {x1 : Int32} {x2 : Int32} {x3 : Int32} (K : Kx E cX8_says RX8 (rmd 1 0 0)) (X : Bx E l yX8_says 5 (some .int) 0 0 ad (QI res)) (hk16 : ∀ (S : Hp) (x2 : Int32) (x3 : Int32), k16 S x2 x3 = some res → J E 0 0 16 [(0, vR (some o)), (1, vI x1), (2, vI x2), (3, vI x3)] [] S ad) (h : L_X8_says_16 k16 fu o x1 S x2 x3 = some res) : J E 0 0 16 [(0, vR (some o)), (1, vI x1), (2, vI x2), (3, vI x3)] [] S ad := by
  refine j_iload_n K dX8_says_16 rfl 3 rfl ?_
  refine j_aload_n K dX8_says_17 rfl 0 rfl ?_
  obtain ⟨v18, e18, h⟩ := bd h
  refine fgX8_34 K dX8_says_18 e18 ?_
  refine j_iconst (v := (4 : Int32)) K dX8_says_21 (by decide) ?_
  refine j_aload_n K dX8_says_22 rfl 0 rfl ?_
  obtain ⟨v23, e23, h⟩ := bd h
  refine fgX8_100 K dX8_says_23 e23 ?_
  refine j_imul K dX8_says_26 ?_
  refine j_iload_n K dX8_says_27 rfl 1 rfl ?_
  refine j_iadd K dX8_says_28 ?_
  refine j_iconst (v := (1 : Int32)) K dX8_says_29 (by decide) ?_
  refine j_iadd K dX8_says_30 ?_
  obtain ⟨v31, e31, h⟩ := bd h
  refine j_aG K dX8_says_31 e31 ?_
  refine j_icmp_ge K dX8_says_32 (fun c32 => ?_) (fun c32 => ?_)
  · replace h := it c32 h
    refine j_aload_n K dX8_says_197 rfl 0 rfl ?_
    obtain ⟨v198, e198, h⟩ := bd h
    refine fgX8_61 K dX8_says_198 e198 ?_
    refine j_iconst (v := (0 : Int32)) K dX8_says_201 (by decide) ?_
    obtain ⟨v202, e202, h⟩ := bd h
    refine j_aG K dX8_says_202 e202 ?_
    exact j_iret K X dX8_says_203 h
  · replace h := ie c32 h
    refine j_aload_n K dX8_says_35 rfl 0 rfl ?_
    obtain ⟨v36, e36, h⟩ := bd h
    refine fgX8_31 K dX8_says_36 e36 ?_
    refine j_sipush (v := (200 : Int32)) K dX8_says_39 (by decide) ?_
    refine j_aload_n K dX8_says_42 rfl 0 rfl ?_
    obtain ⟨v43, e43, h⟩ := bd h
    refine fgX8_100 K dX8_says_43 e43 ?_
    refine j_imul K dX8_says_46 ?_
    refine j_iload_n K dX8_says_47 rfl 3 rfl ?_
    refine j_iadd K dX8_says_48 ?_
    obtain ⟨v49, e49, h⟩ := bd h
    refine j_aG K dX8_says_49 e49 ?_
    refine j_istore (lv' := [(4, vI v49), (0, vR (some o)), (1, vI x1), (2, vI x2), (3, vI x3)]) K dX8_says_50 X.2.2.1 (by decide) rfl ?_
    refine j_iload K dX8_says_52 0 rfl ?_
    refine j_ldc K dX8_says_54 z823 ?_
    refine j_icmp_ge K dX8_says_56 (fun c56 => ?_) (fun c56 => ?_)
    · replace h := it c56 h
      exact j_sub [1, 2, 3, 4, 0] rfl (w_X8_says_66 K X hk16 h)
    · replace h := ie c56 h
      refine j_iload K dX8_says_59 0 rfl ?_
      refine j_bipush (v := (11 : Int32)) K dX8_says_61 (by decide) ?_
      refine j_icmp_ge K dX8_says_63 (fun c63 => ?_) (fun c63 => ?_)
      · replace h := it c63 h
        refine j_iload K dX8_says_100 0 rfl ?_
        refine j_bipush (v := (13 : Int32)) K dX8_says_102 (by decide) ?_
        refine j_icmp_ne K dX8_says_104 (fun c104 => ?_) (fun c104 => ?_)
        · replace h := ie c104 h
          refine j_iload K dX8_says_134 0 rfl ?_
          refine j_bipush (v := (19 : Int32)) K dX8_says_136 (by decide) ?_
          refine j_icmp_ne K dX8_says_138 (fun c138 => ?_) (fun c138 => ?_)
          · replace h := ie c138 h
            refine j_iinc (q := 3) (v := (x2 + (-1 : Int32))) (lv' := [(2, vI (x2 + (-1 : Int32))), (4, vI v49), (0, vR (some o)), (1, vI x1), (3, vI x3)]) K dX8_says_161 rfl rfl X.2.2.1 (by decide) rfl ?_
            refine j_aload_n K dX8_says_164 rfl 2 rfl ?_
            obtain ⟨v165, e165, h⟩ := bd h
            refine fgX8_61 K dX8_says_165 e165 ?_
            refine j_iload_n K dX8_says_168 rfl 0 rfl ?_
            refine j_iconst (v := (1 : Int32)) K dX8_says_169 (by decide) ?_
            refine j_isub K dX8_says_170 ?_
            refine j_iload K dX8_says_171 1 rfl ?_
            refine j_aload_n K dX8_says_173 rfl 2 rfl ?_
            obtain ⟨v174, e174, h⟩ := bd h
            refine fgX8_61 K dX8_says_174 e174 ?_
            refine j_iload_n K dX8_says_177 rfl 0 rfl ?_
            refine j_iconst (v := (1 : Int32)) K dX8_says_178 (by decide) ?_
            refine j_isub K dX8_says_179 ?_
            obtain ⟨v180, e180, h⟩ := bd h
            refine j_aG K dX8_says_180 e180 ?_
            refine j_aload_n K dX8_says_181 rfl 2 rfl ?_
            obtain ⟨v182, e182, h⟩ := bd h
            refine fgX8_61 K dX8_says_182 e182 ?_
            refine j_iload_n K dX8_says_185 rfl 0 rfl ?_
            obtain ⟨v186, e186, h⟩ := bd h
            refine j_aG K dX8_says_186 e186 ?_
            obtain ⟨v187, S187, e187, h⟩ := bd2 h
            refine j_cI (st := [vI ((x2 + (-1 : Int32)) - (1 : Int32)), vR v165]) K (r_S (vs := [vI v49, vI v180, vI v186]) (n := 3) K (c_X8_two e187) dX8_says_187 z1018 z1019 z13 z1020 ⟨zd_X8_two, rfl, rfl, rfl, ⟨Nat.le_of_ble_eq_true rfl, Nat.le_of_ble_eq_true rfl⟩, Nat.le_of_ble_eq_true rfl, Nat.le_of_ble_eq_true rfl, Nat.le_of_ble_eq_true rfl⟩) rfl ?_
            obtain ⟨S190, e190, h⟩ := bd h
            refine j_aP K dX8_says_190 e190 ?_
            exact j_sub [2, 3, 0, 4] rfl (w_X8_says_191 K X hk16 h)
          · replace h := it c138 h
            refine j_aload_n K dX8_says_141 rfl 1 rfl ?_
            obtain ⟨v142, e142, h⟩ := bd h
            refine fgX8_61 K dX8_says_142 e142 ?_
            refine j_iload_n K dX8_says_145 rfl 3 rfl ?_
            refine j_iconst (v := (1 : Int32)) K dX8_says_146 (by decide) ?_
            refine j_isub K dX8_says_147 ?_
            refine j_aload_n K dX8_says_148 rfl 1 rfl ?_
            obtain ⟨v149, e149, h⟩ := bd h
            refine fgX8_61 K dX8_says_149 e149 ?_
            refine j_iload_n K dX8_says_152 rfl 3 rfl ?_
            refine j_iconst (v := (1 : Int32)) K dX8_says_153 (by decide) ?_
            refine j_isub K dX8_says_154 ?_
            obtain ⟨v155, e155, h⟩ := bd h
            refine j_aG K dX8_says_155 e155 ?_
            refine j_ineg K dX8_says_156 ?_
            obtain ⟨S157, e157, h⟩ := bd h
            refine j_aP K dX8_says_157 e157 ?_
            refine j_goto K dX8_says_158 ?_
            exact j_sub [1, 2, 3, 4] rfl (w_X8_says_191 K X hk16 h)
        · replace h := it c104 h
          refine j_aload_n K dX8_says_107 rfl 1 rfl ?_
          obtain ⟨v108, e108, h⟩ := bd h
          refine fgX8_61 K dX8_says_108 e108 ?_
          refine j_iload_n K dX8_says_111 rfl 3 rfl ?_
          refine j_iconst (v := (1 : Int32)) K dX8_says_112 (by decide) ?_
          refine j_isub K dX8_says_113 ?_
          refine j_aload_n K dX8_says_114 rfl 1 rfl ?_
          obtain ⟨v115, e115, h⟩ := bd h
          refine fgX8_61 K dX8_says_115 e115 ?_
          refine j_iload_n K dX8_says_118 rfl 3 rfl ?_
          refine j_iconst (v := (1 : Int32)) K dX8_says_119 (by decide) ?_
          refine j_isub K dX8_says_120 ?_
          obtain ⟨v121, e121, h⟩ := bd h
          refine j_aG K dX8_says_121 e121 ?_
          refine j_if_ne K dX8_says_122 (fun c122 => ?_) (fun c122 => ?_)
          · replace h := ie c122 h
            refine j_iconst (v := (0 : Int32)) K dX8_says_129 (by decide) ?_
            exact j_sub [1, 2, 3, 4] rfl (w_X8_says_130 K X hk16 h)
          · replace h := it c122 h
            refine j_iconst (v := (1 : Int32)) K dX8_says_125 (by decide) ?_
            refine j_goto K dX8_says_126 ?_
            exact j_sub [1, 2, 3, 4] rfl (w_X8_says_130 K X hk16 h)
      · replace h := ie c63 h
        exact j_sub [1, 2, 3, 4, 0] rfl (w_X8_says_66 K X hk16 h)
def B_X8_says_16 (fu : Nat) (o : Nat) (x1 : Int32) : Nat → Hp → Int32 → Int32 → Option (Int32 × Hp)
  | 0 => fun _ _ _ => none
  | n + 1 => L_X8_says_16 (B_X8_says_16 fu o x1 n) fu o x1
theorem w_X8_says_16 {E : Cx} {l : Launch} {res : Int32 × Hp} {ad : Nat → Nat} {fu : Nat} {o : Nat} {x1 : Int32} (K : Kx E cX8_says RX8 (rmd 1 0 0)) (X : Bx E l yX8_says 5 (some .int) 0 0 ad (QI res)) : ∀ (n : Nat) (S : Hp) (x2 : Int32) (x3 : Int32), B_X8_says_16 fu o x1 n S x2 x3 = some res → J E 0 0 16 [(0, vR (some o)), (1, vI x1), (2, vI x2), (3, vI x3)] [] S ad := by
  intro n
  induction n with
  | zero =>
    intro S x2 x3 h
    cases h
  | succ n ih =>
    intro S x2 x3 h
    exact wl_X8_says_16 K X ih h
def F_X8_says (fu : Nat) (S : Hp) (o : Nat) (x1 : Int32) : Option (Int32 × Hp) :=
  (gR S (some o) 6 12).bind fun v3 =>
  (gI S (some o) 6 14).bind fun v8 =>
  (aG S v3 (((4 : Int32) * v8) + x1)).bind fun v14 =>
  B_X8_says_16 fu o x1 fu S (0 : Int32) v14
set_option maxRecDepth 100000 in
set_option maxHeartbeats 4000000 in
theorem w_X8_says {E : Cx} {l : Launch} {res : Int32 × Hp} {ad : Nat → Nat} {fu : Nat} {S : Hp} {o : Nat} {x1 : Int32} (K : Kx E cX8_says RX8 (rmd 1 0 0)) (X : Bx E l yX8_says 5 (some .int) 0 0 ad (QI res)) (h : F_X8_says fu S o x1 = some res) : J E 0 0 0 [(0, vR (some o)), (1, vI x1)] [] S ad := by
  refine j_iconst (v := (0 : Int32)) K dX8_says_0 (by decide) ?_
  refine j_istore_n (lv' := [(2, vI (0 : Int32)), (0, vR (some o)), (1, vI x1)]) K dX8_says_1 rfl X.2.2.1 (by decide) rfl ?_
  refine j_aload_n K dX8_says_2 rfl 1 rfl ?_
  obtain ⟨v3, e3, h⟩ := bd h
  refine fgX8_34 K dX8_says_3 e3 ?_
  refine j_iconst (v := (4 : Int32)) K dX8_says_6 (by decide) ?_
  refine j_aload_n K dX8_says_7 rfl 1 rfl ?_
  obtain ⟨v8, e8, h⟩ := bd h
  refine fgX8_100 K dX8_says_8 e8 ?_
  refine j_imul K dX8_says_11 ?_
  refine j_iload_n K dX8_says_12 rfl 2 rfl ?_
  refine j_iadd K dX8_says_13 ?_
  obtain ⟨v14, e14, h⟩ := bd h
  refine j_aG K dX8_says_14 e14 ?_
  refine j_istore_n (lv' := [(3, vI v14), (2, vI (0 : Int32)), (0, vR (some o)), (1, vI x1)]) K dX8_says_15 rfl X.2.2.1 (by decide) rfl ?_
  exact j_sub [2, 3, 1, 0] rfl (w_X8_says_16 K X _ _ _ _ h)
theorem c_X8_says {l : Launch} {fu : Nat} {S : Hp} {o : Nat} {x1 : Int32} {res : Int32 × Hp} (h : F_X8_says fu S o x1 = some res) : Ct l yX8_says cX8_says 5 (some .int) (rmd 1 0 0) 0 0 [vR (some o), vI x1] S (QI res) :=
  z_entry (by decide +kernel) (Nat.le_of_ble_eq_true rfl) (fun E ad K X => w_X8_says K X h)

theorem dX8_force_0 : decode cX8_force 0 = .ok (.iload_n 1, 1) ∧ 0 + 1 = 1 := ⟨by decide +kernel, rfl⟩
theorem dX8_force_1 : decode cX8_force 1 = .ok (.iconst 0, 1) ∧ 1 + 1 = 2 := ⟨by decide +kernel, rfl⟩
theorem dX8_force_2 : decode cX8_force 2 = .ok (.aload_n 0, 1) ∧ 2 + 1 = 3 := ⟨by decide +kernel, rfl⟩
theorem dX8_force_3 : decode cX8_force 3 = .ok (.getfield 97, 3) ∧ 3 + 3 = 6 := ⟨by decide +kernel, rfl⟩
theorem dX8_force_6 : decode cX8_force 6 = .ok (.iconst 1, 1) ∧ 6 + 1 = 7 := ⟨by decide +kernel, rfl⟩
theorem dX8_force_7 : decode cX8_force 7 = .ok (.isub, 1) ∧ 7 + 1 = 8 := ⟨by decide +kernel, rfl⟩
theorem dX8_force_8 : decode cX8_force 8 = .ok (.invokestatic 87, 3) := by decide +kernel
theorem dX8_force_11 : decode cX8_force 11 = .ok (.ifCond .ne 6, 3) ∧ 11 + 3 = 14 ∧ ((11 : Nat) : Int) + (6) = ((17 : Nat) : Int) := ⟨by decide +kernel, rfl, by decide⟩
theorem dX8_force_14 : decode cX8_force 14 = .ok (.bipush (-2), 2) ∧ 14 + 2 = 16 := ⟨by decide +kernel, rfl⟩
theorem dX8_force_16 : decode cX8_force 16 = .ok (.ireturn, 1) := by decide +kernel
theorem dX8_force_17 : decode cX8_force 17 = .ok (.aload_n 0, 1) ∧ 17 + 1 = 18 := ⟨by decide +kernel, rfl⟩
theorem dX8_force_18 : decode cX8_force 18 = .ok (.getfield 100, 3) ∧ 18 + 3 = 21 := ⟨by decide +kernel, rfl⟩
theorem dX8_force_21 : decode cX8_force 21 = .ok (.istore_n 2, 1) ∧ 21 + 1 = 22 := ⟨by decide +kernel, rfl⟩
theorem dX8_force_22 : decode cX8_force 22 = .ok (.aload_n 0, 1) ∧ 22 + 1 = 23 := ⟨by decide +kernel, rfl⟩
theorem dX8_force_23 : decode cX8_force 23 = .ok (.iload_n 1, 1) ∧ 23 + 1 = 24 := ⟨by decide +kernel, rfl⟩
theorem dX8_force_24 : decode cX8_force 24 = .ok (.putfield 100, 3) ∧ 24 + 3 = 27 := ⟨by decide +kernel, rfl⟩
theorem dX8_force_27 : decode cX8_force 27 = .ok (.iload_n 2, 1) ∧ 27 + 1 = 28 := ⟨by decide +kernel, rfl⟩
theorem dX8_force_28 : decode cX8_force 28 = .ok (.ireturn, 1) := by decide +kernel
def F_X8_force (S : Hp) (o : Nat) (x1 : Int32) : Option (Int32 × Hp) :=
  (gI S (some o) 6 13).bind fun v3 =>
  b2 (F_X8_in S x1 (0 : Int32) (v3 - (1 : Int32))) fun v8 S8 =>
  if v8 = 0 then
    some ((-2 : Int32), S8)
  else
    (gI S8 (some o) 6 14).bind fun v18 =>
    (pI S8 (some o) 6 14 x1).bind fun S24 =>
    some (v18, S24)
set_option maxRecDepth 100000 in
set_option maxHeartbeats 4000000 in
theorem w_X8_force {E : Cx} {l : Launch} {res : Int32 × Hp} {ad : Nat → Nat} {S : Hp} {o : Nat} {x1 : Int32} (K : Kx E cX8_force RX8 (rmd 1 0 0)) (X : Bx E l yX8_force 3 (some .int) 0 0 ad (QI res)) (h : F_X8_force S o x1 = some res) : J E 0 0 0 [(0, vR (some o)), (1, vI x1)] [] S ad := by
  refine j_iload_n K dX8_force_0 rfl 1 rfl ?_
  refine j_iconst (v := (0 : Int32)) K dX8_force_1 (by decide) ?_
  refine j_aload_n K dX8_force_2 rfl 0 rfl ?_
  obtain ⟨v3, e3, h⟩ := bd h
  refine fgX8_97 K dX8_force_3 e3 ?_
  refine j_iconst (v := (1 : Int32)) K dX8_force_6 (by decide) ?_
  refine j_isub K dX8_force_7 ?_
  obtain ⟨v8, S8, e8, h⟩ := bd2 h
  refine j_cI (st := []) K (r_S (vs := [vI x1, vI (0 : Int32), vI (v3 - (1 : Int32))]) (n := 3) K (c_X8_in e8) dX8_force_8 z812 z813 z13 z814 ⟨zd_X8_in, rfl, rfl, rfl, ⟨Nat.le_of_ble_eq_true rfl, Nat.le_of_ble_eq_true rfl⟩, Nat.le_of_ble_eq_true rfl, Nat.le_of_ble_eq_true rfl, Nat.le_of_ble_eq_true rfl⟩) rfl ?_
  refine j_if_ne K dX8_force_11 (fun c11 => ?_) (fun c11 => ?_)
  · replace h := ie c11 h
    refine j_aload_n K dX8_force_17 rfl 0 rfl ?_
    obtain ⟨v18, e18, h⟩ := bd h
    refine fgX8_100 K dX8_force_18 e18 ?_
    refine j_istore_n (lv' := [(2, vI v18), (0, vR (some o)), (1, vI x1)]) K dX8_force_21 rfl X.2.2.1 (by decide) rfl ?_
    refine j_aload_n K dX8_force_22 rfl 1 rfl ?_
    refine j_iload_n K dX8_force_23 rfl 2 rfl ?_
    obtain ⟨S24, e24, h⟩ := bd h
    refine fpX8_100 K dX8_force_24 e24 ?_
    refine j_iload_n K dX8_force_27 rfl 0 rfl ?_
    exact j_iret K X dX8_force_28 h
  · replace h := it c11 h
    refine j_bipush (v := (-2 : Int32)) K dX8_force_14 (by decide) ?_
    exact j_iret K X dX8_force_16 h
theorem c_X8_force {l : Launch} {S : Hp} {o : Nat} {x1 : Int32} {res : Int32 × Hp} (h : F_X8_force S o x1 = some res) : Ct l yX8_force cX8_force 3 (some .int) (rmd 1 0 0) 0 0 [vR (some o), vI x1] S (QI res) :=
  z_entry (by decide +kernel) (Nat.le_of_ble_eq_true rfl) (fun E ad K X => w_X8_force K X h)

theorem dX8_asksOf_0 : decode cX8_asksOf 0 = .ok (.aload_n 0, 1) ∧ 0 + 1 = 1 := ⟨by decide +kernel, rfl⟩
theorem dX8_asksOf_1 : decode cX8_asksOf 1 = .ok (.getfield 64, 3) ∧ 1 + 3 = 4 := ⟨by decide +kernel, rfl⟩
theorem dX8_asksOf_4 : decode cX8_asksOf 4 = .ok (.iconst 0, 1) ∧ 4 + 1 = 5 := ⟨by decide +kernel, rfl⟩
theorem dX8_asksOf_5 : decode cX8_asksOf 5 = .ok (.aload_n 0, 1) ∧ 5 + 1 = 6 := ⟨by decide +kernel, rfl⟩
theorem dX8_asksOf_6 : decode cX8_asksOf 6 = .ok (.getfield 22, 3) ∧ 6 + 3 = 9 := ⟨by decide +kernel, rfl⟩
theorem dX8_asksOf_9 : decode cX8_asksOf 9 = .ok (.iload_n 3, 1) ∧ 9 + 1 = 10 := ⟨by decide +kernel, rfl⟩
theorem dX8_asksOf_10 : decode cX8_asksOf 10 = .ok (.iaload, 1) ∧ 10 + 1 = 11 := ⟨by decide +kernel, rfl⟩
theorem dX8_asksOf_11 : decode cX8_asksOf 11 = .ok (.iastore, 1) ∧ 11 + 1 = 12 := ⟨by decide +kernel, rfl⟩
theorem dX8_asksOf_12 : decode cX8_asksOf 12 = .ok (.aload_n 0, 1) ∧ 12 + 1 = 13 := ⟨by decide +kernel, rfl⟩
theorem dX8_asksOf_13 : decode cX8_asksOf 13 = .ok (.getfield 64, 3) ∧ 13 + 3 = 16 := ⟨by decide +kernel, rfl⟩
theorem dX8_asksOf_16 : decode cX8_asksOf 16 = .ok (.iconst 1, 1) ∧ 16 + 1 = 17 := ⟨by decide +kernel, rfl⟩
theorem dX8_asksOf_17 : decode cX8_asksOf 17 = .ok (.aload_n 0, 1) ∧ 17 + 1 = 18 := ⟨by decide +kernel, rfl⟩
theorem dX8_asksOf_18 : decode cX8_asksOf 18 = .ok (.getfield 19, 3) ∧ 18 + 3 = 21 := ⟨by decide +kernel, rfl⟩
theorem dX8_asksOf_21 : decode cX8_asksOf 21 = .ok (.iload_n 3, 1) ∧ 21 + 1 = 22 := ⟨by decide +kernel, rfl⟩
theorem dX8_asksOf_22 : decode cX8_asksOf 22 = .ok (.iaload, 1) ∧ 22 + 1 = 23 := ⟨by decide +kernel, rfl⟩
theorem dX8_asksOf_23 : decode cX8_asksOf 23 = .ok (.invokestatic 173, 3) := by decide +kernel
theorem dX8_asksOf_26 : decode cX8_asksOf 26 = .ok (.iastore, 1) ∧ 26 + 1 = 27 := ⟨by decide +kernel, rfl⟩
theorem dX8_asksOf_27 : decode cX8_asksOf 27 = .ok (.aload_n 0, 1) ∧ 27 + 1 = 28 := ⟨by decide +kernel, rfl⟩
theorem dX8_asksOf_28 : decode cX8_asksOf 28 = .ok (.getfield 64, 3) ∧ 28 + 3 = 31 := ⟨by decide +kernel, rfl⟩
theorem dX8_asksOf_31 : decode cX8_asksOf 31 = .ok (.iconst 2, 1) ∧ 31 + 1 = 32 := ⟨by decide +kernel, rfl⟩
theorem dX8_asksOf_32 : decode cX8_asksOf 32 = .ok (.aload_n 0, 1) ∧ 32 + 1 = 33 := ⟨by decide +kernel, rfl⟩
theorem dX8_asksOf_33 : decode cX8_asksOf 33 = .ok (.getfield 25, 3) ∧ 33 + 3 = 36 := ⟨by decide +kernel, rfl⟩
theorem dX8_asksOf_36 : decode cX8_asksOf 36 = .ok (.iload_n 3, 1) ∧ 36 + 1 = 37 := ⟨by decide +kernel, rfl⟩
theorem dX8_asksOf_37 : decode cX8_asksOf 37 = .ok (.iaload, 1) ∧ 37 + 1 = 38 := ⟨by decide +kernel, rfl⟩
theorem dX8_asksOf_38 : decode cX8_asksOf 38 = .ok (.invokestatic 173, 3) := by decide +kernel
theorem dX8_asksOf_41 : decode cX8_asksOf 41 = .ok (.iastore, 1) ∧ 41 + 1 = 42 := ⟨by decide +kernel, rfl⟩
theorem dX8_asksOf_42 : decode cX8_asksOf 42 = .ok (.aload_n 0, 1) ∧ 42 + 1 = 43 := ⟨by decide +kernel, rfl⟩
theorem dX8_asksOf_43 : decode cX8_asksOf 43 = .ok (.getfield 64, 3) ∧ 43 + 3 = 46 := ⟨by decide +kernel, rfl⟩
theorem dX8_asksOf_46 : decode cX8_asksOf 46 = .ok (.iconst 3, 1) ∧ 46 + 1 = 47 := ⟨by decide +kernel, rfl⟩
theorem dX8_asksOf_47 : decode cX8_asksOf 47 = .ok (.aload_n 0, 1) ∧ 47 + 1 = 48 := ⟨by decide +kernel, rfl⟩
theorem dX8_asksOf_48 : decode cX8_asksOf 48 = .ok (.getfield 94, 3) ∧ 48 + 3 = 51 := ⟨by decide +kernel, rfl⟩
theorem dX8_asksOf_51 : decode cX8_asksOf 51 = .ok (.iastore, 1) ∧ 51 + 1 = 52 := ⟨by decide +kernel, rfl⟩
theorem dX8_asksOf_52 : decode cX8_asksOf 52 = .ok (.aload_n 0, 1) ∧ 52 + 1 = 53 := ⟨by decide +kernel, rfl⟩
theorem dX8_asksOf_53 : decode cX8_asksOf 53 = .ok (.getfield 64, 3) ∧ 53 + 3 = 56 := ⟨by decide +kernel, rfl⟩
theorem dX8_asksOf_56 : decode cX8_asksOf 56 = .ok (.iconst 4, 1) ∧ 56 + 1 = 57 := ⟨by decide +kernel, rfl⟩
theorem dX8_asksOf_57 : decode cX8_asksOf 57 = .ok (.aload_n 0, 1) ∧ 57 + 1 = 58 := ⟨by decide +kernel, rfl⟩
theorem dX8_asksOf_58 : decode cX8_asksOf 58 = .ok (.getfield 16, 3) ∧ 58 + 3 = 61 := ⟨by decide +kernel, rfl⟩
theorem dX8_asksOf_61 : decode cX8_asksOf 61 = .ok (.iconst 2, 1) ∧ 61 + 1 = 62 := ⟨by decide +kernel, rfl⟩
theorem dX8_asksOf_62 : decode cX8_asksOf 62 = .ok (.iload_n 2, 1) ∧ 62 + 1 = 63 := ⟨by decide +kernel, rfl⟩
theorem dX8_asksOf_63 : decode cX8_asksOf 63 = .ok (.imul, 1) ∧ 63 + 1 = 64 := ⟨by decide +kernel, rfl⟩
theorem dX8_asksOf_64 : decode cX8_asksOf 64 = .ok (.iaload, 1) ∧ 64 + 1 = 65 := ⟨by decide +kernel, rfl⟩
theorem dX8_asksOf_65 : decode cX8_asksOf 65 = .ok (.iastore, 1) ∧ 65 + 1 = 66 := ⟨by decide +kernel, rfl⟩
theorem dX8_asksOf_66 : decode cX8_asksOf 66 = .ok (.aload_n 0, 1) ∧ 66 + 1 = 67 := ⟨by decide +kernel, rfl⟩
theorem dX8_asksOf_67 : decode cX8_asksOf 67 = .ok (.getfield 64, 3) ∧ 67 + 3 = 70 := ⟨by decide +kernel, rfl⟩
theorem dX8_asksOf_70 : decode cX8_asksOf 70 = .ok (.iconst 5, 1) ∧ 70 + 1 = 71 := ⟨by decide +kernel, rfl⟩
theorem dX8_asksOf_71 : decode cX8_asksOf 71 = .ok (.aload_n 0, 1) ∧ 71 + 1 = 72 := ⟨by decide +kernel, rfl⟩
theorem dX8_asksOf_72 : decode cX8_asksOf 72 = .ok (.getfield 13, 3) ∧ 72 + 3 = 75 := ⟨by decide +kernel, rfl⟩
theorem dX8_asksOf_75 : decode cX8_asksOf 75 = .ok (.iload_n 2, 1) ∧ 75 + 1 = 76 := ⟨by decide +kernel, rfl⟩
theorem dX8_asksOf_76 : decode cX8_asksOf 76 = .ok (.iaload, 1) ∧ 76 + 1 = 77 := ⟨by decide +kernel, rfl⟩
theorem dX8_asksOf_77 : decode cX8_asksOf 77 = .ok (.iastore, 1) ∧ 77 + 1 = 78 := ⟨by decide +kernel, rfl⟩
theorem dX8_asksOf_78 : decode cX8_asksOf 78 = .ok (.aload_n 0, 1) ∧ 78 + 1 = 79 := ⟨by decide +kernel, rfl⟩
theorem dX8_asksOf_79 : decode cX8_asksOf 79 = .ok (.iload_n 1, 1) ∧ 79 + 1 = 80 := ⟨by decide +kernel, rfl⟩
theorem dX8_asksOf_80 : decode cX8_asksOf 80 = .ok (.invokevirtual 176, 3) := by decide +kernel
theorem dX8_asksOf_83 : decode cX8_asksOf 83 = .ok (.iconst 0, 1) ∧ 83 + 1 = 84 := ⟨by decide +kernel, rfl⟩
theorem dX8_asksOf_84 : decode cX8_asksOf 84 = .ok (.iload_n 1, 1) ∧ 84 + 1 = 85 := ⟨by decide +kernel, rfl⟩
theorem dX8_asksOf_85 : decode cX8_asksOf 85 = .ok (.ifCond .ne 8, 3) ∧ 85 + 3 = 88 ∧ ((85 : Nat) : Int) + (8) = ((93 : Nat) : Int) := ⟨by decide +kernel, rfl, by decide⟩
theorem dX8_asksOf_88 : decode cX8_asksOf 88 = .ok (.bipush 20, 2) ∧ 88 + 2 = 90 := ⟨by decide +kernel, rfl⟩
theorem dX8_asksOf_90 : decode cX8_asksOf 90 = .ok (.goto 5, 3) ∧ ((90 : Nat) : Int) + (5) = ((95 : Nat) : Int) := ⟨by decide +kernel, by decide⟩
theorem dX8_asksOf_93 : decode cX8_asksOf 93 = .ok (.bipush 99, 2) ∧ 93 + 2 = 95 := ⟨by decide +kernel, rfl⟩
theorem dX8_asksOf_95 : decode cX8_asksOf 95 = .ok (.invokestatic 179, 3) := by decide +kernel
theorem dX8_asksOf_98 : decode cX8_asksOf 98 = .ok (.ireturn, 1) := by decide +kernel
def B_X8_asksOf_95 (fu : Nat) (o : Nat) (S : Hp) (s0 : Int32) (s1 : Int32) (s2 : Int32) : Option (Int32 × Hp) :=
  b2 (F_X8_within S s2 s1 s0) fun v95 S95 =>
  some (v95, S95)
set_option maxRecDepth 100000 in
set_option maxHeartbeats 4000000 in
theorem w_X8_asksOf_95 {E : Cx} {l : Launch} {res : Int32 × Hp} {ad : Nat → Nat} {fu : Nat} {o : Nat} {S : Hp} {s0 : Int32} {s1 : Int32} {s2 : Int32} (K : Kx E cX8_asksOf RX8 (rmd 2 0 0)) (X : Bx E l yX8_asksOf 4 (some .int) 0 0 ad (QI res)) (h : B_X8_asksOf_95 fu o S s0 s1 s2 = some res) : J E 0 0 95 [] [vI s0, vI s1, vI s2] S ad := by
  obtain ⟨v95, S95, e95, h⟩ := bd2 h
  refine j_cI (st := []) K (r_S (vs := [vI s2, vI s1, vI s0]) (n := 3) K (c_X8_within e95) dX8_asksOf_95 z1021 z1022 z13 z1023 ⟨zd_X8_within, rfl, rfl, rfl, ⟨Nat.le_of_ble_eq_true rfl, Nat.le_of_ble_eq_true rfl⟩, Nat.le_of_ble_eq_true rfl, Nat.le_of_ble_eq_true rfl, Nat.le_of_ble_eq_true rfl⟩) rfl ?_
  exact j_iret K X dX8_asksOf_98 h
def F_X8_asksOf (fu : Nat) (S : Hp) (o : Nat) (x1 : Int32) (x2 : Int32) (x3 : Int32) : Option (Int32 × Hp) :=
  (gR S (some o) 6 32).bind fun v1 =>
  (gR S (some o) 6 5).bind fun v6 =>
  (aG S v6 x3).bind fun v10 =>
  (aP S v1 (0 : Int32) v10).bind fun S11 =>
  (gR S11 (some o) 6 32).bind fun v13 =>
  (gR S11 (some o) 6 4).bind fun v18 =>
  (aG S11 v18 x3).bind fun v22 =>
  b2 (F_X8_bitsOf fu S11 v22) fun v23 S23 =>
  (aP S23 v13 (1 : Int32) v23).bind fun S26 =>
  (gR S26 (some o) 6 32).bind fun v28 =>
  (gR S26 (some o) 6 6).bind fun v33 =>
  (aG S26 v33 x3).bind fun v37 =>
  b2 (F_X8_bitsOf fu S26 v37) fun v38 S38 =>
  (aP S38 v28 (2 : Int32) v38).bind fun S41 =>
  (gR S41 (some o) 6 32).bind fun v43 =>
  (gI S41 (some o) 6 8).bind fun v48 =>
  (aP S41 v43 (3 : Int32) v48).bind fun S51 =>
  (gR S51 (some o) 6 32).bind fun v53 =>
  (gR S51 (some o) 6 3).bind fun v58 =>
  (aG S51 v58 ((2 : Int32) * x2)).bind fun v64 =>
  (aP S51 v53 (4 : Int32) v64).bind fun S65 =>
  (gR S65 (some o) 6 32).bind fun v67 =>
  (gR S65 (some o) 6 2).bind fun v72 =>
  (aG S65 v72 x2).bind fun v76 =>
  (aP S65 v67 (5 : Int32) v76).bind fun S77 =>
  (ob S77 6 (some o)).bind fun _ =>
  b2 (F_X8_says fu S77 o x1) fun v80 S80 =>
  if x1 = 0 then
    B_X8_asksOf_95 fu o S80 (20 : Int32) (0 : Int32) v80
  else
    B_X8_asksOf_95 fu o S80 (99 : Int32) (0 : Int32) v80
set_option maxRecDepth 100000 in
set_option maxHeartbeats 4000000 in
theorem w_X8_asksOf {E : Cx} {l : Launch} {res : Int32 × Hp} {ad : Nat → Nat} {fu : Nat} {S : Hp} {o : Nat} {x1 : Int32} {x2 : Int32} {x3 : Int32} (K : Kx E cX8_asksOf RX8 (rmd 2 0 0)) (X : Bx E l yX8_asksOf 4 (some .int) 0 0 ad (QI res)) (h : F_X8_asksOf fu S o x1 x2 x3 = some res) : J E 0 0 0 [(0, vR (some o)), (1, vI x1), (2, vI x2), (3, vI x3)] [] S ad := by
  refine j_aload_n K dX8_asksOf_0 rfl 0 rfl ?_
  obtain ⟨v1, e1, h⟩ := bd h
  refine fgX8_64 K dX8_asksOf_1 e1 ?_
  refine j_iconst (v := (0 : Int32)) K dX8_asksOf_4 (by decide) ?_
  refine j_aload_n K dX8_asksOf_5 rfl 0 rfl ?_
  obtain ⟨v6, e6, h⟩ := bd h
  refine fgX8_22 K dX8_asksOf_6 e6 ?_
  refine j_iload_n K dX8_asksOf_9 rfl 3 rfl ?_
  obtain ⟨v10, e10, h⟩ := bd h
  refine j_aG K dX8_asksOf_10 e10 ?_
  obtain ⟨S11, e11, h⟩ := bd h
  refine j_aP K dX8_asksOf_11 e11 ?_
  refine j_aload_n K dX8_asksOf_12 rfl 0 rfl ?_
  obtain ⟨v13, e13, h⟩ := bd h
  refine fgX8_64 K dX8_asksOf_13 e13 ?_
  refine j_iconst (v := (1 : Int32)) K dX8_asksOf_16 (by decide) ?_
  refine j_aload_n K dX8_asksOf_17 rfl 0 rfl ?_
  obtain ⟨v18, e18, h⟩ := bd h
  refine fgX8_19 K dX8_asksOf_18 e18 ?_
  refine j_iload_n K dX8_asksOf_21 rfl 3 rfl ?_
  obtain ⟨v22, e22, h⟩ := bd h
  refine j_aG K dX8_asksOf_22 e22 ?_
  obtain ⟨v23, S23, e23, h⟩ := bd2 h
  refine j_cI (st := [vI (1 : Int32), vR v13]) K (r_S (vs := [vI v22]) (n := 1) K (c_X8_bitsOf e23) dX8_asksOf_23 z1011 z1012 z13 z1013 ⟨zd_X8_bitsOf, rfl, rfl, rfl, ⟨Nat.le_of_ble_eq_true rfl, Nat.le_of_ble_eq_true rfl⟩, Nat.le_of_ble_eq_true rfl, Nat.le_of_ble_eq_true rfl, Nat.le_of_ble_eq_true rfl⟩) rfl ?_
  obtain ⟨S26, e26, h⟩ := bd h
  refine j_aP K dX8_asksOf_26 e26 ?_
  refine j_aload_n K dX8_asksOf_27 rfl 0 rfl ?_
  obtain ⟨v28, e28, h⟩ := bd h
  refine fgX8_64 K dX8_asksOf_28 e28 ?_
  refine j_iconst (v := (2 : Int32)) K dX8_asksOf_31 (by decide) ?_
  refine j_aload_n K dX8_asksOf_32 rfl 0 rfl ?_
  obtain ⟨v33, e33, h⟩ := bd h
  refine fgX8_25 K dX8_asksOf_33 e33 ?_
  refine j_iload_n K dX8_asksOf_36 rfl 3 rfl ?_
  obtain ⟨v37, e37, h⟩ := bd h
  refine j_aG K dX8_asksOf_37 e37 ?_
  obtain ⟨v38, S38, e38, h⟩ := bd2 h
  refine j_cI (st := [vI (2 : Int32), vR v28]) K (r_S (vs := [vI v37]) (n := 1) K (c_X8_bitsOf e38) dX8_asksOf_38 z1011 z1012 z13 z1013 ⟨zd_X8_bitsOf, rfl, rfl, rfl, ⟨Nat.le_of_ble_eq_true rfl, Nat.le_of_ble_eq_true rfl⟩, Nat.le_of_ble_eq_true rfl, Nat.le_of_ble_eq_true rfl, Nat.le_of_ble_eq_true rfl⟩) rfl ?_
  obtain ⟨S41, e41, h⟩ := bd h
  refine j_aP K dX8_asksOf_41 e41 ?_
  refine j_aload_n K dX8_asksOf_42 rfl 0 rfl ?_
  obtain ⟨v43, e43, h⟩ := bd h
  refine fgX8_64 K dX8_asksOf_43 e43 ?_
  refine j_iconst (v := (3 : Int32)) K dX8_asksOf_46 (by decide) ?_
  refine j_aload_n K dX8_asksOf_47 rfl 0 rfl ?_
  obtain ⟨v48, e48, h⟩ := bd h
  refine fgX8_94 K dX8_asksOf_48 e48 ?_
  obtain ⟨S51, e51, h⟩ := bd h
  refine j_aP K dX8_asksOf_51 e51 ?_
  refine j_aload_n K dX8_asksOf_52 rfl 0 rfl ?_
  obtain ⟨v53, e53, h⟩ := bd h
  refine fgX8_64 K dX8_asksOf_53 e53 ?_
  refine j_iconst (v := (4 : Int32)) K dX8_asksOf_56 (by decide) ?_
  refine j_aload_n K dX8_asksOf_57 rfl 0 rfl ?_
  obtain ⟨v58, e58, h⟩ := bd h
  refine fgX8_16 K dX8_asksOf_58 e58 ?_
  refine j_iconst (v := (2 : Int32)) K dX8_asksOf_61 (by decide) ?_
  refine j_iload_n K dX8_asksOf_62 rfl 2 rfl ?_
  refine j_imul K dX8_asksOf_63 ?_
  obtain ⟨v64, e64, h⟩ := bd h
  refine j_aG K dX8_asksOf_64 e64 ?_
  obtain ⟨S65, e65, h⟩ := bd h
  refine j_aP K dX8_asksOf_65 e65 ?_
  refine j_aload_n K dX8_asksOf_66 rfl 0 rfl ?_
  obtain ⟨v67, e67, h⟩ := bd h
  refine fgX8_64 K dX8_asksOf_67 e67 ?_
  refine j_iconst (v := (5 : Int32)) K dX8_asksOf_70 (by decide) ?_
  refine j_aload_n K dX8_asksOf_71 rfl 0 rfl ?_
  obtain ⟨v72, e72, h⟩ := bd h
  refine fgX8_13 K dX8_asksOf_72 e72 ?_
  refine j_iload_n K dX8_asksOf_75 rfl 2 rfl ?_
  obtain ⟨v76, e76, h⟩ := bd h
  refine j_aG K dX8_asksOf_76 e76 ?_
  obtain ⟨S77, e77, h⟩ := bd h
  refine j_aP K dX8_asksOf_77 e77 ?_
  refine j_aload_n K dX8_asksOf_78 rfl 0 rfl ?_
  refine j_iload_n K dX8_asksOf_79 rfl 1 rfl ?_
  obtain ⟨w80, ew80, h⟩ := bd h
  have ho80 := obS ew80
  obtain ⟨v80, S80, e80, h⟩ := bd2 h
  refine j_cI (st := []) K (r_V (vs := [vI x1]) (n := 1) (o := o) K (c_X8_says e80) ho80 (by decide) rfl dX8_asksOf_80 z1014 z1016 zs37 z13 z1017 ⟨zd_X8_says, rfl, rfl, rfl, ⟨Nat.le_of_ble_eq_true rfl, Nat.le_of_ble_eq_true rfl⟩, Nat.le_of_ble_eq_true rfl, Nat.le_of_ble_eq_true rfl, Nat.le_of_ble_eq_true rfl⟩) rfl ?_
  refine j_iconst (v := (0 : Int32)) K dX8_asksOf_83 (by decide) ?_
  refine j_iload_n K dX8_asksOf_84 rfl 1 rfl ?_
  refine j_if_ne K dX8_asksOf_85 (fun c85 => ?_) (fun c85 => ?_)
  · replace h := ie c85 h
    refine j_bipush (v := (99 : Int32)) K dX8_asksOf_93 (by decide) ?_
    exact j_sub [] rfl (w_X8_asksOf_95 K X h)
  · replace h := it c85 h
    refine j_bipush (v := (20 : Int32)) K dX8_asksOf_88 (by decide) ?_
    refine j_goto K dX8_asksOf_90 ?_
    exact j_sub [] rfl (w_X8_asksOf_95 K X h)
theorem c_X8_asksOf {l : Launch} {fu : Nat} {S : Hp} {o : Nat} {x1 : Int32} {x2 : Int32} {x3 : Int32} {res : Int32 × Hp} (h : F_X8_asksOf fu S o x1 x2 x3 = some res) : Ct l yX8_asksOf cX8_asksOf 4 (some .int) (rmd 2 0 0) 0 0 [vR (some o), vI x1, vI x2, vI x3] S (QI res) :=
  z_entry (by decide +kernel) (Nat.le_of_ble_eq_true rfl) (fun E ad K X => w_X8_asksOf K X h)

theorem dX8_asks_0 : decode cX8_asks 0 = .ok (.iload_n 1, 1) ∧ 0 + 1 = 1 := ⟨by decide +kernel, rfl⟩
theorem dX8_asks_1 : decode cX8_asks 1 = .ok (.iconst 0, 1) ∧ 1 + 1 = 2 := ⟨by decide +kernel, rfl⟩
theorem dX8_asks_2 : decode cX8_asks 2 = .ok (.iconst 2, 1) ∧ 2 + 1 = 3 := ⟨by decide +kernel, rfl⟩
theorem dX8_asks_3 : decode cX8_asks 3 = .ok (.invokestatic 87, 3) := by decide +kernel
theorem dX8_asks_6 : decode cX8_asks 6 = .ok (.ifCond .eq 29, 3) ∧ 6 + 3 = 9 ∧ ((6 : Nat) : Int) + (29) = ((35 : Nat) : Int) := ⟨by decide +kernel, rfl, by decide⟩
theorem dX8_asks_9 : decode cX8_asks 9 = .ok (.aload_n 0, 1) ∧ 9 + 1 = 10 := ⟨by decide +kernel, rfl⟩
theorem dX8_asks_10 : decode cX8_asks 10 = .ok (.iload_n 2, 1) ∧ 10 + 1 = 11 := ⟨by decide +kernel, rfl⟩
theorem dX8_asks_11 : decode cX8_asks 11 = .ok (.invokevirtual 182, 3) := by decide +kernel
theorem dX8_asks_14 : decode cX8_asks 14 = .ok (.ifCond .eq 21, 3) ∧ 14 + 3 = 17 ∧ ((14 : Nat) : Int) + (21) = ((35 : Nat) : Int) := ⟨by decide +kernel, rfl, by decide⟩
theorem dX8_asks_17 : decode cX8_asks 17 = .ok (.aload_n 0, 1) ∧ 17 + 1 = 18 := ⟨by decide +kernel, rfl⟩
theorem dX8_asks_18 : decode cX8_asks 18 = .ok (.iload_n 3, 1) ∧ 18 + 1 = 19 := ⟨by decide +kernel, rfl⟩
theorem dX8_asks_19 : decode cX8_asks 19 = .ok (.invokevirtual 103, 3) := by decide +kernel
theorem dX8_asks_22 : decode cX8_asks 22 = .ok (.ifCond .eq 13, 3) ∧ 22 + 3 = 25 ∧ ((22 : Nat) : Int) + (13) = ((35 : Nat) : Int) := ⟨by decide +kernel, rfl, by decide⟩
theorem dX8_asks_25 : decode cX8_asks 25 = .ok (.aload_n 0, 1) ∧ 25 + 1 = 26 := ⟨by decide +kernel, rfl⟩
theorem dX8_asks_26 : decode cX8_asks 26 = .ok (.iload_n 1, 1) ∧ 26 + 1 = 27 := ⟨by decide +kernel, rfl⟩
theorem dX8_asks_27 : decode cX8_asks 27 = .ok (.iload_n 2, 1) ∧ 27 + 1 = 28 := ⟨by decide +kernel, rfl⟩
theorem dX8_asks_28 : decode cX8_asks 28 = .ok (.iload_n 3, 1) ∧ 28 + 1 = 29 := ⟨by decide +kernel, rfl⟩
theorem dX8_asks_29 : decode cX8_asks 29 = .ok (.invokevirtual 185, 3) := by decide +kernel
theorem dX8_asks_32 : decode cX8_asks 32 = .ok (.goto 5, 3) ∧ ((32 : Nat) : Int) + (5) = ((37 : Nat) : Int) := ⟨by decide +kernel, by decide⟩
theorem dX8_asks_35 : decode cX8_asks 35 = .ok (.bipush (-2), 2) ∧ 35 + 2 = 37 := ⟨by decide +kernel, rfl⟩
theorem dX8_asks_37 : decode cX8_asks 37 = .ok (.ireturn, 1) := by decide +kernel
def B_X8_asks_37 (fu : Nat) (o : Nat) (S : Hp) (s0 : Int32) : Option (Int32 × Hp) :=
  some (s0, S)
set_option maxRecDepth 100000 in
set_option maxHeartbeats 4000000 in
theorem w_X8_asks_37 {E : Cx} {l : Launch} {res : Int32 × Hp} {ad : Nat → Nat} {fu : Nat} {o : Nat} {S : Hp} {s0 : Int32} (K : Kx E cX8_asks RX8 (rmd 3 0 0)) (X : Bx E l yX8_asks 4 (some .int) 0 0 ad (QI res)) (h : B_X8_asks_37 fu o S s0 = some res) : J E 0 0 37 [] [vI s0] S ad := by
  exact j_iret K X dX8_asks_37 h
def B_X8_asks_35 (fu : Nat) (o : Nat) (S : Hp) : Option (Int32 × Hp) :=
  B_X8_asks_37 fu o S (-2 : Int32)
set_option maxRecDepth 100000 in
set_option maxHeartbeats 4000000 in
theorem w_X8_asks_35 {E : Cx} {l : Launch} {res : Int32 × Hp} {ad : Nat → Nat} {fu : Nat} {o : Nat} {S : Hp} (K : Kx E cX8_asks RX8 (rmd 3 0 0)) (X : Bx E l yX8_asks 4 (some .int) 0 0 ad (QI res)) (h : B_X8_asks_35 fu o S = some res) : J E 0 0 35 [] [] S ad := by
  refine j_bipush (v := (-2 : Int32)) K dX8_asks_35 (by decide) ?_
  exact w_X8_asks_37 K X h
def F_X8_asks (fu : Nat) (S : Hp) (o : Nat) (x1 : Int32) (x2 : Int32) (x3 : Int32) : Option (Int32 × Hp) :=
  b2 (F_X8_in S x1 (0 : Int32) (2 : Int32)) fun v3 S3 =>
  if v3 = 0 then
    B_X8_asks_35 fu o S3
  else
    (ob S3 6 (some o)).bind fun _ =>
    b2 (F_X8_isOne S3 o x2) fun v11 S11 =>
    if v11 = 0 then
      B_X8_asks_35 fu o S11
    else
      (ob S11 6 (some o)).bind fun _ =>
      b2 (F_X8_isWrong S11 o x3) fun v19 S19 =>
      if v19 = 0 then
        B_X8_asks_35 fu o S19
      else
        (ob S19 6 (some o)).bind fun _ =>
        b2 (F_X8_asksOf fu S19 o x1 x2 x3) fun v29 S29 =>
        B_X8_asks_37 fu o S29 v29
set_option maxRecDepth 100000 in
set_option maxHeartbeats 4000000 in
theorem w_X8_asks {E : Cx} {l : Launch} {res : Int32 × Hp} {ad : Nat → Nat} {fu : Nat} {S : Hp} {o : Nat} {x1 : Int32} {x2 : Int32} {x3 : Int32} (K : Kx E cX8_asks RX8 (rmd 3 0 0)) (X : Bx E l yX8_asks 4 (some .int) 0 0 ad (QI res)) (h : F_X8_asks fu S o x1 x2 x3 = some res) : J E 0 0 0 [(0, vR (some o)), (1, vI x1), (2, vI x2), (3, vI x3)] [] S ad := by
  refine j_iload_n K dX8_asks_0 rfl 1 rfl ?_
  refine j_iconst (v := (0 : Int32)) K dX8_asks_1 (by decide) ?_
  refine j_iconst (v := (2 : Int32)) K dX8_asks_2 (by decide) ?_
  obtain ⟨v3, S3, e3, h⟩ := bd2 h
  refine j_cI (st := []) K (r_S (vs := [vI x1, vI (0 : Int32), vI (2 : Int32)]) (n := 3) K (c_X8_in e3) dX8_asks_3 z812 z813 z13 z814 ⟨zd_X8_in, rfl, rfl, rfl, ⟨Nat.le_of_ble_eq_true rfl, Nat.le_of_ble_eq_true rfl⟩, Nat.le_of_ble_eq_true rfl, Nat.le_of_ble_eq_true rfl, Nat.le_of_ble_eq_true rfl⟩) rfl ?_
  refine j_if_eq K dX8_asks_6 (fun c6 => ?_) (fun c6 => ?_)
  · replace h := it c6 h
    exact j_sub [] rfl (w_X8_asks_35 K X h)
  · replace h := ie c6 h
    refine j_aload_n K dX8_asks_9 rfl 0 rfl ?_
    refine j_iload_n K dX8_asks_10 rfl 2 rfl ?_
    obtain ⟨w11, ew11, h⟩ := bd h
    have ho11 := obS ew11
    obtain ⟨v11, S11, e11, h⟩ := bd2 h
    refine j_cI (st := []) K (r_V (vs := [vI x2]) (n := 1) (o := o) K (c_X8_isOne e11) ho11 (by decide) rfl dX8_asks_11 z1003 z1005 zs35 z13 z1006 ⟨zd_X8_isOne, rfl, rfl, rfl, ⟨Nat.le_of_ble_eq_true rfl, Nat.le_of_ble_eq_true rfl⟩, Nat.le_of_ble_eq_true rfl, Nat.le_of_ble_eq_true rfl, Nat.le_of_ble_eq_true rfl⟩) rfl ?_
    refine j_if_eq K dX8_asks_14 (fun c14 => ?_) (fun c14 => ?_)
    · replace h := it c14 h
      exact j_sub [] rfl (w_X8_asks_35 K X h)
    · replace h := ie c14 h
      refine j_aload_n K dX8_asks_17 rfl 0 rfl ?_
      refine j_iload_n K dX8_asks_18 rfl 3 rfl ?_
      obtain ⟨w19, ew19, h⟩ := bd h
      have ho19 := obS ew19
      obtain ⟨v19, S19, e19, h⟩ := bd2 h
      refine j_cI (st := []) K (r_V (vs := [vI x3]) (n := 1) (o := o) K (c_X8_isWrong e19) ho19 (by decide) rfl dX8_asks_19 z975 z977 zs33 z13 z978 ⟨zd_X8_isWrong, rfl, rfl, rfl, ⟨Nat.le_of_ble_eq_true rfl, Nat.le_of_ble_eq_true rfl⟩, Nat.le_of_ble_eq_true rfl, Nat.le_of_ble_eq_true rfl, Nat.le_of_ble_eq_true rfl⟩) rfl ?_
      refine j_if_eq K dX8_asks_22 (fun c22 => ?_) (fun c22 => ?_)
      · replace h := it c22 h
        exact j_sub [] rfl (w_X8_asks_35 K X h)
      · replace h := ie c22 h
        refine j_aload_n K dX8_asks_25 rfl 0 rfl ?_
        refine j_iload_n K dX8_asks_26 rfl 1 rfl ?_
        refine j_iload_n K dX8_asks_27 rfl 2 rfl ?_
        refine j_iload_n K dX8_asks_28 rfl 3 rfl ?_
        obtain ⟨w29, ew29, h⟩ := bd h
        have ho29 := obS ew29
        obtain ⟨v29, S29, e29, h⟩ := bd2 h
        refine j_cI (st := []) K (r_V (vs := [vI x1, vI x2, vI x3]) (n := 3) (o := o) K (c_X8_asksOf e29) ho29 (by decide) rfl dX8_asks_29 z1007 z1009 zs36 z13 z1010 ⟨zd_X8_asksOf, rfl, rfl, rfl, ⟨Nat.le_of_ble_eq_true rfl, Nat.le_of_ble_eq_true rfl⟩, Nat.le_of_ble_eq_true rfl, Nat.le_of_ble_eq_true rfl, Nat.le_of_ble_eq_true rfl⟩) rfl ?_
        refine j_goto K dX8_asks_32 ?_
        exact j_sub [] rfl (w_X8_asks_37 K X h)
theorem c_X8_asks {l : Launch} {fu : Nat} {S : Hp} {o : Nat} {x1 : Int32} {x2 : Int32} {x3 : Int32} {res : Int32 × Hp} (h : F_X8_asks fu S o x1 x2 x3 = some res) : Ct l yX8_asks cX8_asks 4 (some .int) (rmd 3 0 0) 0 0 [vR (some o), vI x1, vI x2, vI x3] S (QI res) :=
  z_entry (by decide +kernel) (Nat.le_of_ble_eq_true rfl) (fun E ad K X => w_X8_asks K X h)

theorem dX8_person_0 : decode cX8_person 0 = .ok (.iload_n 1, 1) ∧ 0 + 1 = 1 := ⟨by decide +kernel, rfl⟩
theorem dX8_person_1 : decode cX8_person 1 = .ok (.iconst 0, 1) ∧ 1 + 1 = 2 := ⟨by decide +kernel, rfl⟩
theorem dX8_person_2 : decode cX8_person 2 = .ok (.bipush 59, 2) ∧ 2 + 2 = 4 := ⟨by decide +kernel, rfl⟩
theorem dX8_person_4 : decode cX8_person 4 = .ok (.invokestatic 87, 3) := by decide +kernel
theorem dX8_person_7 : decode cX8_person 7 = .ok (.ifCond .eq 13, 3) ∧ 7 + 3 = 10 ∧ ((7 : Nat) : Int) + (13) = ((20 : Nat) : Int) := ⟨by decide +kernel, rfl, by decide⟩
theorem dX8_person_10 : decode cX8_person 10 = .ok (.iload_n 2, 1) ∧ 10 + 1 = 11 := ⟨by decide +kernel, rfl⟩
theorem dX8_person_11 : decode cX8_person 11 = .ok (.iconst 0, 1) ∧ 11 + 1 = 12 := ⟨by decide +kernel, rfl⟩
theorem dX8_person_12 : decode cX8_person 12 = .ok (.bipush 99, 2) ∧ 12 + 2 = 14 := ⟨by decide +kernel, rfl⟩
theorem dX8_person_14 : decode cX8_person 14 = .ok (.invokestatic 87, 3) := by decide +kernel
theorem dX8_person_17 : decode cX8_person 17 = .ok (.ifCond .ne 6, 3) ∧ 17 + 3 = 20 ∧ ((17 : Nat) : Int) + (6) = ((23 : Nat) : Int) := ⟨by decide +kernel, rfl, by decide⟩
theorem dX8_person_20 : decode cX8_person 20 = .ok (.bipush (-2), 2) ∧ 20 + 2 = 22 := ⟨by decide +kernel, rfl⟩
theorem dX8_person_22 : decode cX8_person 22 = .ok (.ireturn, 1) := by decide +kernel
theorem dX8_person_23 : decode cX8_person 23 = .ok (.aload_n 0, 1) ∧ 23 + 1 = 24 := ⟨by decide +kernel, rfl⟩
theorem dX8_person_24 : decode cX8_person 24 = .ok (.getfield 84, 3) ∧ 24 + 3 = 27 := ⟨by decide +kernel, rfl⟩
theorem dX8_person_27 : decode cX8_person 27 = .ok (.bipush 6, 2) ∧ 27 + 2 = 29 := ⟨by decide +kernel, rfl⟩
theorem dX8_person_29 : decode cX8_person 29 = .ok (.if_icmp .ne 6, 3) ∧ 29 + 3 = 32 ∧ ((29 : Nat) : Int) + (6) = ((35 : Nat) : Int) := ⟨by decide +kernel, rfl, by decide⟩
theorem dX8_person_32 : decode cX8_person 32 = .ok (.bipush (-4), 2) ∧ 32 + 2 = 34 := ⟨by decide +kernel, rfl⟩
theorem dX8_person_34 : decode cX8_person 34 = .ok (.ireturn, 1) := by decide +kernel
theorem dX8_person_35 : decode cX8_person 35 = .ok (.aload_n 0, 1) ∧ 35 + 1 = 36 := ⟨by decide +kernel, rfl⟩
theorem dX8_person_36 : decode cX8_person 36 = .ok (.getfield 7, 3) ∧ 36 + 3 = 39 := ⟨by decide +kernel, rfl⟩
theorem dX8_person_39 : decode cX8_person 39 = .ok (.aload_n 0, 1) ∧ 39 + 1 = 40 := ⟨by decide +kernel, rfl⟩
theorem dX8_person_40 : decode cX8_person 40 = .ok (.getfield 84, 3) ∧ 40 + 3 = 43 := ⟨by decide +kernel, rfl⟩
theorem dX8_person_43 : decode cX8_person 43 = .ok (.iload_n 1, 1) ∧ 43 + 1 = 44 := ⟨by decide +kernel, rfl⟩
theorem dX8_person_44 : decode cX8_person 44 = .ok (.bipush 10, 2) ∧ 44 + 2 = 46 := ⟨by decide +kernel, rfl⟩
theorem dX8_person_46 : decode cX8_person 46 = .ok (.idiv, 1) ∧ 46 + 1 = 47 := ⟨by decide +kernel, rfl⟩
theorem dX8_person_47 : decode cX8_person 47 = .ok (.iastore, 1) ∧ 47 + 1 = 48 := ⟨by decide +kernel, rfl⟩
theorem dX8_person_48 : decode cX8_person 48 = .ok (.aload_n 0, 1) ∧ 48 + 1 = 49 := ⟨by decide +kernel, rfl⟩
theorem dX8_person_49 : decode cX8_person 49 = .ok (.getfield 13, 3) ∧ 49 + 3 = 52 := ⟨by decide +kernel, rfl⟩
theorem dX8_person_52 : decode cX8_person 52 = .ok (.aload_n 0, 1) ∧ 52 + 1 = 53 := ⟨by decide +kernel, rfl⟩
theorem dX8_person_53 : decode cX8_person 53 = .ok (.getfield 84, 3) ∧ 53 + 3 = 56 := ⟨by decide +kernel, rfl⟩
theorem dX8_person_56 : decode cX8_person 56 = .ok (.iload_n 1, 1) ∧ 56 + 1 = 57 := ⟨by decide +kernel, rfl⟩
theorem dX8_person_57 : decode cX8_person 57 = .ok (.bipush 10, 2) ∧ 57 + 2 = 59 := ⟨by decide +kernel, rfl⟩
theorem dX8_person_59 : decode cX8_person 59 = .ok (.irem, 1) ∧ 59 + 1 = 60 := ⟨by decide +kernel, rfl⟩
theorem dX8_person_60 : decode cX8_person 60 = .ok (.iastore, 1) ∧ 60 + 1 = 61 := ⟨by decide +kernel, rfl⟩
theorem dX8_person_61 : decode cX8_person 61 = .ok (.aload_n 0, 1) ∧ 61 + 1 = 62 := ⟨by decide +kernel, rfl⟩
theorem dX8_person_62 : decode cX8_person 62 = .ok (.getfield 16, 3) ∧ 62 + 3 = 65 := ⟨by decide +kernel, rfl⟩
theorem dX8_person_65 : decode cX8_person 65 = .ok (.iconst 2, 1) ∧ 65 + 1 = 66 := ⟨by decide +kernel, rfl⟩
theorem dX8_person_66 : decode cX8_person 66 = .ok (.aload_n 0, 1) ∧ 66 + 1 = 67 := ⟨by decide +kernel, rfl⟩
theorem dX8_person_67 : decode cX8_person 67 = .ok (.getfield 84, 3) ∧ 67 + 3 = 70 := ⟨by decide +kernel, rfl⟩
theorem dX8_person_70 : decode cX8_person 70 = .ok (.imul, 1) ∧ 70 + 1 = 71 := ⟨by decide +kernel, rfl⟩
theorem dX8_person_71 : decode cX8_person 71 = .ok (.iload_n 2, 1) ∧ 71 + 1 = 72 := ⟨by decide +kernel, rfl⟩
theorem dX8_person_72 : decode cX8_person 72 = .ok (.iastore, 1) ∧ 72 + 1 = 73 := ⟨by decide +kernel, rfl⟩
theorem dX8_person_73 : decode cX8_person 73 = .ok (.aload_n 0, 1) ∧ 73 + 1 = 74 := ⟨by decide +kernel, rfl⟩
theorem dX8_person_74 : decode cX8_person 74 = .ok (.getfield 16, 3) ∧ 74 + 3 = 77 := ⟨by decide +kernel, rfl⟩
theorem dX8_person_77 : decode cX8_person 77 = .ok (.iconst 2, 1) ∧ 77 + 1 = 78 := ⟨by decide +kernel, rfl⟩
theorem dX8_person_78 : decode cX8_person 78 = .ok (.aload_n 0, 1) ∧ 78 + 1 = 79 := ⟨by decide +kernel, rfl⟩
theorem dX8_person_79 : decode cX8_person 79 = .ok (.getfield 84, 3) ∧ 79 + 3 = 82 := ⟨by decide +kernel, rfl⟩
theorem dX8_person_82 : decode cX8_person 82 = .ok (.imul, 1) ∧ 82 + 1 = 83 := ⟨by decide +kernel, rfl⟩
theorem dX8_person_83 : decode cX8_person 83 = .ok (.iconst 1, 1) ∧ 83 + 1 = 84 := ⟨by decide +kernel, rfl⟩
theorem dX8_person_84 : decode cX8_person 84 = .ok (.iadd, 1) ∧ 84 + 1 = 85 := ⟨by decide +kernel, rfl⟩
theorem dX8_person_85 : decode cX8_person 85 = .ok (.sipush 500, 3) ∧ 85 + 3 = 88 := ⟨by decide +kernel, rfl⟩
theorem dX8_person_88 : decode cX8_person 88 = .ok (.iastore, 1) ∧ 88 + 1 = 89 := ⟨by decide +kernel, rfl⟩
theorem dX8_person_89 : decode cX8_person 89 = .ok (.aload_n 0, 1) ∧ 89 + 1 = 90 := ⟨by decide +kernel, rfl⟩
theorem dX8_person_90 : decode cX8_person 90 = .ok (.dup, 1) ∧ 90 + 1 = 91 := ⟨by decide +kernel, rfl⟩
theorem dX8_person_91 : decode cX8_person 91 = .ok (.getfield 84, 3) ∧ 91 + 3 = 94 := ⟨by decide +kernel, rfl⟩
theorem dX8_person_94 : decode cX8_person 94 = .ok (.iconst 1, 1) ∧ 94 + 1 = 95 := ⟨by decide +kernel, rfl⟩
theorem dX8_person_95 : decode cX8_person 95 = .ok (.iadd, 1) ∧ 95 + 1 = 96 := ⟨by decide +kernel, rfl⟩
theorem dX8_person_96 : decode cX8_person 96 = .ok (.putfield 84, 3) ∧ 96 + 3 = 99 := ⟨by decide +kernel, rfl⟩
theorem dX8_person_99 : decode cX8_person 99 = .ok (.aload_n 0, 1) ∧ 99 + 1 = 100 := ⟨by decide +kernel, rfl⟩
theorem dX8_person_100 : decode cX8_person 100 = .ok (.getfield 84, 3) ∧ 100 + 3 = 103 := ⟨by decide +kernel, rfl⟩
theorem dX8_person_103 : decode cX8_person 103 = .ok (.iconst 1, 1) ∧ 103 + 1 = 104 := ⟨by decide +kernel, rfl⟩
theorem dX8_person_104 : decode cX8_person 104 = .ok (.isub, 1) ∧ 104 + 1 = 105 := ⟨by decide +kernel, rfl⟩
theorem dX8_person_105 : decode cX8_person 105 = .ok (.ireturn, 1) := by decide +kernel
def B_X8_person_20 (o : Nat) (S : Hp) : Option (Int32 × Hp) :=
  some ((-2 : Int32), S)
set_option maxRecDepth 100000 in
set_option maxHeartbeats 4000000 in
theorem w_X8_person_20 {E : Cx} {l : Launch} {res : Int32 × Hp} {ad : Nat → Nat} {o : Nat} {S : Hp} (K : Kx E cX8_person RX8 (rmd 1 0 0)) (X : Bx E l yX8_person 3 (some .int) 0 0 ad (QI res)) (h : B_X8_person_20 o S = some res) : J E 0 0 20 [] [] S ad := by
  refine j_bipush (v := (-2 : Int32)) K dX8_person_20 (by decide) ?_
  exact j_iret K X dX8_person_22 h
def F_X8_person (S : Hp) (o : Nat) (x1 : Int32) (x2 : Int32) : Option (Int32 × Hp) :=
  b2 (F_X8_in S x1 (0 : Int32) (59 : Int32)) fun v4 S4 =>
  if v4 = 0 then
    B_X8_person_20 o S4
  else
    b2 (F_X8_in S4 x2 (0 : Int32) (99 : Int32)) fun v14 S14 =>
    if v14 = 0 then
      B_X8_person_20 o S14
    else
      (gI S14 (some o) 6 0).bind fun v24 =>
      if v24 = (6 : Int32) then
        some ((-4 : Int32), S14)
      else
        (gR S14 (some o) 6 1).bind fun v36 =>
        (gI S14 (some o) 6 0).bind fun v40 =>
        (aP S14 v36 v40 (x1 / (10 : Int32))).bind fun S47 =>
        (gR S47 (some o) 6 2).bind fun v49 =>
        (gI S47 (some o) 6 0).bind fun v53 =>
        (aP S47 v49 v53 (x1 - x1 / (10 : Int32) * (10 : Int32))).bind fun S60 =>
        (gR S60 (some o) 6 3).bind fun v62 =>
        (gI S60 (some o) 6 0).bind fun v67 =>
        (aP S60 v62 ((2 : Int32) * v67) x2).bind fun S72 =>
        (gR S72 (some o) 6 3).bind fun v74 =>
        (gI S72 (some o) 6 0).bind fun v79 =>
        (aP S72 v74 (((2 : Int32) * v79) + (1 : Int32)) (500 : Int32)).bind fun S88 =>
        (gI S88 (some o) 6 0).bind fun v91 =>
        (pI S88 (some o) 6 0 (v91 + (1 : Int32))).bind fun S96 =>
        (gI S96 (some o) 6 0).bind fun v100 =>
        some ((v100 - (1 : Int32)), S96)
set_option maxRecDepth 100000 in
set_option maxHeartbeats 4000000 in
theorem w_X8_person {E : Cx} {l : Launch} {res : Int32 × Hp} {ad : Nat → Nat} {S : Hp} {o : Nat} {x1 : Int32} {x2 : Int32} (K : Kx E cX8_person RX8 (rmd 1 0 0)) (X : Bx E l yX8_person 3 (some .int) 0 0 ad (QI res)) (h : F_X8_person S o x1 x2 = some res) : J E 0 0 0 [(0, vR (some o)), (1, vI x1), (2, vI x2)] [] S ad := by
  refine j_iload_n K dX8_person_0 rfl 1 rfl ?_
  refine j_iconst (v := (0 : Int32)) K dX8_person_1 (by decide) ?_
  refine j_bipush (v := (59 : Int32)) K dX8_person_2 (by decide) ?_
  obtain ⟨v4, S4, e4, h⟩ := bd2 h
  refine j_cI (st := []) K (r_S (vs := [vI x1, vI (0 : Int32), vI (59 : Int32)]) (n := 3) K (c_X8_in e4) dX8_person_4 z812 z813 z13 z814 ⟨zd_X8_in, rfl, rfl, rfl, ⟨Nat.le_of_ble_eq_true rfl, Nat.le_of_ble_eq_true rfl⟩, Nat.le_of_ble_eq_true rfl, Nat.le_of_ble_eq_true rfl, Nat.le_of_ble_eq_true rfl⟩) rfl ?_
  refine j_if_eq K dX8_person_7 (fun c7 => ?_) (fun c7 => ?_)
  · replace h := it c7 h
    exact j_sub [] rfl (w_X8_person_20 K X h)
  · replace h := ie c7 h
    refine j_iload_n K dX8_person_10 rfl 2 rfl ?_
    refine j_iconst (v := (0 : Int32)) K dX8_person_11 (by decide) ?_
    refine j_bipush (v := (99 : Int32)) K dX8_person_12 (by decide) ?_
    obtain ⟨v14, S14, e14, h⟩ := bd2 h
    refine j_cI (st := []) K (r_S (vs := [vI x2, vI (0 : Int32), vI (99 : Int32)]) (n := 3) K (c_X8_in e14) dX8_person_14 z812 z813 z13 z814 ⟨zd_X8_in, rfl, rfl, rfl, ⟨Nat.le_of_ble_eq_true rfl, Nat.le_of_ble_eq_true rfl⟩, Nat.le_of_ble_eq_true rfl, Nat.le_of_ble_eq_true rfl, Nat.le_of_ble_eq_true rfl⟩) rfl ?_
    refine j_if_ne K dX8_person_17 (fun c17 => ?_) (fun c17 => ?_)
    · replace h := ie c17 h
      refine j_aload_n K dX8_person_23 rfl 0 rfl ?_
      obtain ⟨v24, e24, h⟩ := bd h
      refine fgX8_84 K dX8_person_24 e24 ?_
      refine j_bipush (v := (6 : Int32)) K dX8_person_27 (by decide) ?_
      refine j_icmp_ne K dX8_person_29 (fun c29 => ?_) (fun c29 => ?_)
      · replace h := ie c29 h
        refine j_aload_n K dX8_person_35 rfl 0 rfl ?_
        obtain ⟨v36, e36, h⟩ := bd h
        refine fgX8_7 K dX8_person_36 e36 ?_
        refine j_aload_n K dX8_person_39 rfl 0 rfl ?_
        obtain ⟨v40, e40, h⟩ := bd h
        refine fgX8_84 K dX8_person_40 e40 ?_
        refine j_iload_n K dX8_person_43 rfl 1 rfl ?_
        refine j_bipush (v := (10 : Int32)) K dX8_person_44 (by decide) ?_
        refine j_idiv K dX8_person_46 (by decide) ?_
        obtain ⟨S47, e47, h⟩ := bd h
        refine j_aP K dX8_person_47 e47 ?_
        refine j_aload_n K dX8_person_48 rfl 0 rfl ?_
        obtain ⟨v49, e49, h⟩ := bd h
        refine fgX8_13 K dX8_person_49 e49 ?_
        refine j_aload_n K dX8_person_52 rfl 0 rfl ?_
        obtain ⟨v53, e53, h⟩ := bd h
        refine fgX8_84 K dX8_person_53 e53 ?_
        refine j_iload_n K dX8_person_56 rfl 1 rfl ?_
        refine j_bipush (v := (10 : Int32)) K dX8_person_57 (by decide) ?_
        refine j_irem K dX8_person_59 (by decide) ?_
        obtain ⟨S60, e60, h⟩ := bd h
        refine j_aP K dX8_person_60 e60 ?_
        refine j_aload_n K dX8_person_61 rfl 0 rfl ?_
        obtain ⟨v62, e62, h⟩ := bd h
        refine fgX8_16 K dX8_person_62 e62 ?_
        refine j_iconst (v := (2 : Int32)) K dX8_person_65 (by decide) ?_
        refine j_aload_n K dX8_person_66 rfl 0 rfl ?_
        obtain ⟨v67, e67, h⟩ := bd h
        refine fgX8_84 K dX8_person_67 e67 ?_
        refine j_imul K dX8_person_70 ?_
        refine j_iload_n K dX8_person_71 rfl 2 rfl ?_
        obtain ⟨S72, e72, h⟩ := bd h
        refine j_aP K dX8_person_72 e72 ?_
        refine j_aload_n K dX8_person_73 rfl 0 rfl ?_
        obtain ⟨v74, e74, h⟩ := bd h
        refine fgX8_16 K dX8_person_74 e74 ?_
        refine j_iconst (v := (2 : Int32)) K dX8_person_77 (by decide) ?_
        refine j_aload_n K dX8_person_78 rfl 0 rfl ?_
        obtain ⟨v79, e79, h⟩ := bd h
        refine fgX8_84 K dX8_person_79 e79 ?_
        refine j_imul K dX8_person_82 ?_
        refine j_iconst (v := (1 : Int32)) K dX8_person_83 (by decide) ?_
        refine j_iadd K dX8_person_84 ?_
        refine j_sipush (v := (500 : Int32)) K dX8_person_85 (by decide) ?_
        obtain ⟨S88, e88, h⟩ := bd h
        refine j_aP K dX8_person_88 e88 ?_
        refine j_aload_n K dX8_person_89 rfl 0 rfl ?_
        refine j_dup K dX8_person_90 rfl ?_
        obtain ⟨v91, e91, h⟩ := bd h
        refine fgX8_84 K dX8_person_91 e91 ?_
        refine j_iconst (v := (1 : Int32)) K dX8_person_94 (by decide) ?_
        refine j_iadd K dX8_person_95 ?_
        obtain ⟨S96, e96, h⟩ := bd h
        refine fpX8_84 K dX8_person_96 e96 ?_
        refine j_aload_n K dX8_person_99 rfl 0 rfl ?_
        obtain ⟨v100, e100, h⟩ := bd h
        refine fgX8_84 K dX8_person_100 e100 ?_
        refine j_iconst (v := (1 : Int32)) K dX8_person_103 (by decide) ?_
        refine j_isub K dX8_person_104 ?_
        exact j_iret K X dX8_person_105 h
      · replace h := it c29 h
        refine j_bipush (v := (-4 : Int32)) K dX8_person_32 (by decide) ?_
        exact j_iret K X dX8_person_34 h
    · replace h := it c17 h
      exact j_sub [] rfl (w_X8_person_20 K X h)
theorem c_X8_person {l : Launch} {S : Hp} {o : Nat} {x1 : Int32} {x2 : Int32} {res : Int32 × Hp} (h : F_X8_person S o x1 x2 = some res) : Ct l yX8_person cX8_person 3 (some .int) (rmd 1 0 0) 0 0 [vR (some o), vI x1, vI x2] S (QI res) :=
  z_entry (by decide +kernel) (Nat.le_of_ble_eq_true rfl) (fun E ad K X => w_X8_person K X h)

theorem dX8_put_0 : decode cX8_put 0 = .ok (.aload_n 0, 1) ∧ 0 + 1 = 1 := ⟨by decide +kernel, rfl⟩
theorem dX8_put_1 : decode cX8_put 1 = .ok (.iload_n 1, 1) ∧ 1 + 1 = 2 := ⟨by decide +kernel, rfl⟩
theorem dX8_put_2 : decode cX8_put 2 = .ok (.invokevirtual 182, 3) := by decide +kernel
theorem dX8_put_5 : decode cX8_put 5 = .ok (.ifCond .ne 6, 3) ∧ 5 + 3 = 8 ∧ ((5 : Nat) : Int) + (6) = ((11 : Nat) : Int) := ⟨by decide +kernel, rfl, by decide⟩
theorem dX8_put_8 : decode cX8_put 8 = .ok (.bipush (-5), 2) ∧ 8 + 2 = 10 := ⟨by decide +kernel, rfl⟩
theorem dX8_put_10 : decode cX8_put 10 = .ok (.ireturn, 1) := by decide +kernel
theorem dX8_put_11 : decode cX8_put 11 = .ok (.iload_n 2, 1) ∧ 11 + 1 = 12 := ⟨by decide +kernel, rfl⟩
theorem dX8_put_12 : decode cX8_put 12 = .ok (.iconst 0, 1) ∧ 12 + 1 = 13 := ⟨by decide +kernel, rfl⟩
theorem dX8_put_13 : decode cX8_put 13 = .ok (.iconst 1, 1) ∧ 13 + 1 = 14 := ⟨by decide +kernel, rfl⟩
theorem dX8_put_14 : decode cX8_put 14 = .ok (.invokestatic 87, 3) := by decide +kernel
theorem dX8_put_17 : decode cX8_put 17 = .ok (.ifCond .eq 23, 3) ∧ 17 + 3 = 20 ∧ ((17 : Nat) : Int) + (23) = ((40 : Nat) : Int) := ⟨by decide +kernel, rfl, by decide⟩
theorem dX8_put_20 : decode cX8_put 20 = .ok (.iload_n 3, 1) ∧ 20 + 1 = 21 := ⟨by decide +kernel, rfl⟩
theorem dX8_put_21 : decode cX8_put 21 = .ok (.iconst 0, 1) ∧ 21 + 1 = 22 := ⟨by decide +kernel, rfl⟩
theorem dX8_put_22 : decode cX8_put 22 = .ok (.iload_n 2, 1) ∧ 22 + 1 = 23 := ⟨by decide +kernel, rfl⟩
theorem dX8_put_23 : decode cX8_put 23 = .ok (.ifCond .ne 8, 3) ∧ 23 + 3 = 26 ∧ ((23 : Nat) : Int) + (8) = ((31 : Nat) : Int) := ⟨by decide +kernel, rfl, by decide⟩
theorem dX8_put_26 : decode cX8_put 26 = .ok (.bipush 99, 2) ∧ 26 + 2 = 28 := ⟨by decide +kernel, rfl⟩
theorem dX8_put_28 : decode cX8_put 28 = .ok (.goto 6, 3) ∧ ((28 : Nat) : Int) + (6) = ((34 : Nat) : Int) := ⟨by decide +kernel, by decide⟩
theorem dX8_put_31 : decode cX8_put 31 = .ok (.sipush 999, 3) ∧ 31 + 3 = 34 := ⟨by decide +kernel, rfl⟩
theorem dX8_put_34 : decode cX8_put 34 = .ok (.invokestatic 87, 3) := by decide +kernel
theorem dX8_put_37 : decode cX8_put 37 = .ok (.ifCond .ne 6, 3) ∧ 37 + 3 = 40 ∧ ((37 : Nat) : Int) + (6) = ((43 : Nat) : Int) := ⟨by decide +kernel, rfl, by decide⟩
theorem dX8_put_40 : decode cX8_put 40 = .ok (.bipush (-7), 2) ∧ 40 + 2 = 42 := ⟨by decide +kernel, rfl⟩
theorem dX8_put_42 : decode cX8_put 42 = .ok (.ireturn, 1) := by decide +kernel
theorem dX8_put_43 : decode cX8_put 43 = .ok (.aload_n 0, 1) ∧ 43 + 1 = 44 := ⟨by decide +kernel, rfl⟩
theorem dX8_put_44 : decode cX8_put 44 = .ok (.getfield 16, 3) ∧ 44 + 3 = 47 := ⟨by decide +kernel, rfl⟩
theorem dX8_put_47 : decode cX8_put 47 = .ok (.iconst 2, 1) ∧ 47 + 1 = 48 := ⟨by decide +kernel, rfl⟩
theorem dX8_put_48 : decode cX8_put 48 = .ok (.iload_n 1, 1) ∧ 48 + 1 = 49 := ⟨by decide +kernel, rfl⟩
theorem dX8_put_49 : decode cX8_put 49 = .ok (.imul, 1) ∧ 49 + 1 = 50 := ⟨by decide +kernel, rfl⟩
theorem dX8_put_50 : decode cX8_put 50 = .ok (.iload_n 2, 1) ∧ 50 + 1 = 51 := ⟨by decide +kernel, rfl⟩
theorem dX8_put_51 : decode cX8_put 51 = .ok (.iadd, 1) ∧ 51 + 1 = 52 := ⟨by decide +kernel, rfl⟩
theorem dX8_put_52 : decode cX8_put 52 = .ok (.iaload, 1) ∧ 52 + 1 = 53 := ⟨by decide +kernel, rfl⟩
theorem dX8_put_53 : decode cX8_put 53 = .ok (.istore 4, 2) ∧ 53 + 2 = 55 := ⟨by decide +kernel, rfl⟩
theorem dX8_put_55 : decode cX8_put 55 = .ok (.aload_n 0, 1) ∧ 55 + 1 = 56 := ⟨by decide +kernel, rfl⟩
theorem dX8_put_56 : decode cX8_put 56 = .ok (.getfield 16, 3) ∧ 56 + 3 = 59 := ⟨by decide +kernel, rfl⟩
theorem dX8_put_59 : decode cX8_put 59 = .ok (.iconst 2, 1) ∧ 59 + 1 = 60 := ⟨by decide +kernel, rfl⟩
theorem dX8_put_60 : decode cX8_put 60 = .ok (.iload_n 1, 1) ∧ 60 + 1 = 61 := ⟨by decide +kernel, rfl⟩
theorem dX8_put_61 : decode cX8_put 61 = .ok (.imul, 1) ∧ 61 + 1 = 62 := ⟨by decide +kernel, rfl⟩
theorem dX8_put_62 : decode cX8_put 62 = .ok (.iload_n 2, 1) ∧ 62 + 1 = 63 := ⟨by decide +kernel, rfl⟩
theorem dX8_put_63 : decode cX8_put 63 = .ok (.iadd, 1) ∧ 63 + 1 = 64 := ⟨by decide +kernel, rfl⟩
theorem dX8_put_64 : decode cX8_put 64 = .ok (.iload_n 3, 1) ∧ 64 + 1 = 65 := ⟨by decide +kernel, rfl⟩
theorem dX8_put_65 : decode cX8_put 65 = .ok (.iastore, 1) ∧ 65 + 1 = 66 := ⟨by decide +kernel, rfl⟩
theorem dX8_put_66 : decode cX8_put 66 = .ok (.iload 4, 2) ∧ 66 + 2 = 68 := ⟨by decide +kernel, rfl⟩
theorem dX8_put_68 : decode cX8_put 68 = .ok (.ireturn, 1) := by decide +kernel
def B_X8_put_40 (o : Nat) (S : Hp) : Option (Int32 × Hp) :=
  some ((-7 : Int32), S)
set_option maxRecDepth 100000 in
set_option maxHeartbeats 4000000 in
theorem w_X8_put_40 {E : Cx} {l : Launch} {res : Int32 × Hp} {ad : Nat → Nat} {o : Nat} {S : Hp} (K : Kx E cX8_put RX8 (rmd 2 0 0)) (X : Bx E l yX8_put 5 (some .int) 0 0 ad (QI res)) (h : B_X8_put_40 o S = some res) : J E 0 0 40 [] [] S ad := by
  refine j_bipush (v := (-7 : Int32)) K dX8_put_40 (by decide) ?_
  exact j_iret K X dX8_put_42 h
def B_X8_put_34 (o : Nat) (S : Hp) (x1 : Int32) (x2 : Int32) (x3 : Int32) (s0 : Int32) (s1 : Int32) (s2 : Int32) : Option (Int32 × Hp) :=
  b2 (F_X8_in S s2 s1 s0) fun v34 S34 =>
  if v34 = 0 then
    B_X8_put_40 o S34
  else
    (gR S34 (some o) 6 3).bind fun v44 =>
    (aG S34 v44 (((2 : Int32) * x1) + x2)).bind fun v52 =>
    (gR S34 (some o) 6 3).bind fun v56 =>
    (aP S34 v56 (((2 : Int32) * x1) + x2) x3).bind fun S65 =>
    some (v52, S65)
set_option maxRecDepth 100000 in
set_option maxHeartbeats 4000000 in
theorem w_X8_put_34 {E : Cx} {l : Launch} {res : Int32 × Hp} {ad : Nat → Nat} {o : Nat} {S : Hp} {x1 : Int32} {x2 : Int32} {x3 : Int32} {s0 : Int32} {s1 : Int32} {s2 : Int32} (K : Kx E cX8_put RX8 (rmd 2 0 0)) (X : Bx E l yX8_put 5 (some .int) 0 0 ad (QI res)) (h : B_X8_put_34 o S x1 x2 x3 s0 s1 s2 = some res) : J E 0 0 34 [(0, vR (some o)), (1, vI x1), (2, vI x2), (3, vI x3)] [vI s0, vI s1, vI s2] S ad := by
  obtain ⟨v34, S34, e34, h⟩ := bd2 h
  refine j_cI (st := []) K (r_S (vs := [vI s2, vI s1, vI s0]) (n := 3) K (c_X8_in e34) dX8_put_34 z812 z813 z13 z814 ⟨zd_X8_in, rfl, rfl, rfl, ⟨Nat.le_of_ble_eq_true rfl, Nat.le_of_ble_eq_true rfl⟩, Nat.le_of_ble_eq_true rfl, Nat.le_of_ble_eq_true rfl, Nat.le_of_ble_eq_true rfl⟩) rfl ?_
  refine j_if_ne K dX8_put_37 (fun c37 => ?_) (fun c37 => ?_)
  · replace h := ie c37 h
    refine j_aload_n K dX8_put_43 rfl 0 rfl ?_
    obtain ⟨v44, e44, h⟩ := bd h
    refine fgX8_16 K dX8_put_44 e44 ?_
    refine j_iconst (v := (2 : Int32)) K dX8_put_47 (by decide) ?_
    refine j_iload_n K dX8_put_48 rfl 1 rfl ?_
    refine j_imul K dX8_put_49 ?_
    refine j_iload_n K dX8_put_50 rfl 2 rfl ?_
    refine j_iadd K dX8_put_51 ?_
    obtain ⟨v52, e52, h⟩ := bd h
    refine j_aG K dX8_put_52 e52 ?_
    refine j_istore (lv' := [(4, vI v52), (0, vR (some o)), (1, vI x1), (2, vI x2), (3, vI x3)]) K dX8_put_53 X.2.2.1 (by decide) rfl ?_
    refine j_aload_n K dX8_put_55 rfl 1 rfl ?_
    obtain ⟨v56, e56, h⟩ := bd h
    refine fgX8_16 K dX8_put_56 e56 ?_
    refine j_iconst (v := (2 : Int32)) K dX8_put_59 (by decide) ?_
    refine j_iload_n K dX8_put_60 rfl 2 rfl ?_
    refine j_imul K dX8_put_61 ?_
    refine j_iload_n K dX8_put_62 rfl 3 rfl ?_
    refine j_iadd K dX8_put_63 ?_
    refine j_iload_n K dX8_put_64 rfl 4 rfl ?_
    obtain ⟨S65, e65, h⟩ := bd h
    refine j_aP K dX8_put_65 e65 ?_
    refine j_iload K dX8_put_66 0 rfl ?_
    exact j_iret K X dX8_put_68 h
  · replace h := it c37 h
    exact j_sub [] rfl (w_X8_put_40 K X h)
def F_X8_put (S : Hp) (o : Nat) (x1 : Int32) (x2 : Int32) (x3 : Int32) : Option (Int32 × Hp) :=
  (ob S 6 (some o)).bind fun _ =>
  b2 (F_X8_isOne S o x1) fun v2 S2 =>
  if v2 = 0 then
    some ((-5 : Int32), S2)
  else
    b2 (F_X8_in S2 x2 (0 : Int32) (1 : Int32)) fun v14 S14 =>
    if v14 = 0 then
      B_X8_put_40 o S14
    else
      if x2 = 0 then
        B_X8_put_34 o S14 x1 x2 x3 (99 : Int32) (0 : Int32) x3
      else
        B_X8_put_34 o S14 x1 x2 x3 (999 : Int32) (0 : Int32) x3
set_option maxRecDepth 100000 in
set_option maxHeartbeats 4000000 in
theorem w_X8_put {E : Cx} {l : Launch} {res : Int32 × Hp} {ad : Nat → Nat} {S : Hp} {o : Nat} {x1 : Int32} {x2 : Int32} {x3 : Int32} (K : Kx E cX8_put RX8 (rmd 2 0 0)) (X : Bx E l yX8_put 5 (some .int) 0 0 ad (QI res)) (h : F_X8_put S o x1 x2 x3 = some res) : J E 0 0 0 [(0, vR (some o)), (1, vI x1), (2, vI x2), (3, vI x3)] [] S ad := by
  refine j_aload_n K dX8_put_0 rfl 0 rfl ?_
  refine j_iload_n K dX8_put_1 rfl 1 rfl ?_
  obtain ⟨w2, ew2, h⟩ := bd h
  have ho2 := obS ew2
  obtain ⟨v2, S2, e2, h⟩ := bd2 h
  refine j_cI (st := []) K (r_V (vs := [vI x1]) (n := 1) (o := o) K (c_X8_isOne e2) ho2 (by decide) rfl dX8_put_2 z1003 z1005 zs35 z13 z1006 ⟨zd_X8_isOne, rfl, rfl, rfl, ⟨Nat.le_of_ble_eq_true rfl, Nat.le_of_ble_eq_true rfl⟩, Nat.le_of_ble_eq_true rfl, Nat.le_of_ble_eq_true rfl, Nat.le_of_ble_eq_true rfl⟩) rfl ?_
  refine j_if_ne K dX8_put_5 (fun c5 => ?_) (fun c5 => ?_)
  · replace h := ie c5 h
    refine j_iload_n K dX8_put_11 rfl 2 rfl ?_
    refine j_iconst (v := (0 : Int32)) K dX8_put_12 (by decide) ?_
    refine j_iconst (v := (1 : Int32)) K dX8_put_13 (by decide) ?_
    obtain ⟨v14, S14, e14, h⟩ := bd2 h
    refine j_cI (st := []) K (r_S (vs := [vI x2, vI (0 : Int32), vI (1 : Int32)]) (n := 3) K (c_X8_in e14) dX8_put_14 z812 z813 z13 z814 ⟨zd_X8_in, rfl, rfl, rfl, ⟨Nat.le_of_ble_eq_true rfl, Nat.le_of_ble_eq_true rfl⟩, Nat.le_of_ble_eq_true rfl, Nat.le_of_ble_eq_true rfl, Nat.le_of_ble_eq_true rfl⟩) rfl ?_
    refine j_if_eq K dX8_put_17 (fun c17 => ?_) (fun c17 => ?_)
    · replace h := it c17 h
      exact j_sub [] rfl (w_X8_put_40 K X h)
    · replace h := ie c17 h
      refine j_iload_n K dX8_put_20 rfl 3 rfl ?_
      refine j_iconst (v := (0 : Int32)) K dX8_put_21 (by decide) ?_
      refine j_iload_n K dX8_put_22 rfl 2 rfl ?_
      refine j_if_ne K dX8_put_23 (fun c23 => ?_) (fun c23 => ?_)
      · replace h := ie c23 h
        refine j_sipush (v := (999 : Int32)) K dX8_put_31 (by decide) ?_
        exact w_X8_put_34 K X h
      · replace h := it c23 h
        refine j_bipush (v := (99 : Int32)) K dX8_put_26 (by decide) ?_
        refine j_goto K dX8_put_28 ?_
        exact w_X8_put_34 K X h
  · replace h := it c5 h
    refine j_bipush (v := (-5 : Int32)) K dX8_put_8 (by decide) ?_
    exact j_iret K X dX8_put_10 h
theorem c_X8_put {l : Launch} {S : Hp} {o : Nat} {x1 : Int32} {x2 : Int32} {x3 : Int32} {res : Int32 × Hp} (h : F_X8_put S o x1 x2 x3 = some res) : Ct l yX8_put cX8_put 5 (some .int) (rmd 2 0 0) 0 0 [vR (some o), vI x1, vI x2, vI x3] S (QI res) :=
  z_entry (by decide +kernel) (Nat.le_of_ble_eq_true rfl) (fun E ad K X => w_X8_put K X h)

theorem dX8_manyOf_0 : decode cX8_manyOf 0 = .ok (.iconst 0, 1) ∧ 0 + 1 = 1 := ⟨by decide +kernel, rfl⟩
theorem dX8_manyOf_1 : decode cX8_manyOf 1 = .ok (.istore_n 3, 1) ∧ 1 + 1 = 2 := ⟨by decide +kernel, rfl⟩
theorem dX8_manyOf_2 : decode cX8_manyOf 2 = .ok (.iconst 0, 1) ∧ 2 + 1 = 3 := ⟨by decide +kernel, rfl⟩
theorem dX8_manyOf_3 : decode cX8_manyOf 3 = .ok (.istore 4, 2) ∧ 3 + 2 = 5 := ⟨by decide +kernel, rfl⟩
theorem dX8_manyOf_5 : decode cX8_manyOf 5 = .ok (.iload 4, 2) ∧ 5 + 2 = 7 := ⟨by decide +kernel, rfl⟩
theorem dX8_manyOf_7 : decode cX8_manyOf 7 = .ok (.aload_n 0, 1) ∧ 7 + 1 = 8 := ⟨by decide +kernel, rfl⟩
theorem dX8_manyOf_8 : decode cX8_manyOf 8 = .ok (.getfield 91, 3) ∧ 8 + 3 = 11 := ⟨by decide +kernel, rfl⟩
theorem dX8_manyOf_11 : decode cX8_manyOf 11 = .ok (.if_icmp .ge 45, 3) ∧ 11 + 3 = 14 ∧ ((11 : Nat) : Int) + (45) = ((56 : Nat) : Int) := ⟨by decide +kernel, rfl, by decide⟩
theorem dX8_manyOf_14 : decode cX8_manyOf 14 = .ok (.iload_n 2, 1) ∧ 14 + 1 = 15 := ⟨by decide +kernel, rfl⟩
theorem dX8_manyOf_15 : decode cX8_manyOf 15 = .ok (.ifCond .eq 13, 3) ∧ 15 + 3 = 18 ∧ ((15 : Nat) : Int) + (13) = ((28 : Nat) : Int) := ⟨by decide +kernel, rfl, by decide⟩
theorem dX8_manyOf_18 : decode cX8_manyOf 18 = .ok (.aload_n 0, 1) ∧ 18 + 1 = 19 := ⟨by decide +kernel, rfl⟩
theorem dX8_manyOf_19 : decode cX8_manyOf 19 = .ok (.iload_n 1, 1) ∧ 19 + 1 = 20 := ⟨by decide +kernel, rfl⟩
theorem dX8_manyOf_20 : decode cX8_manyOf 20 = .ok (.iload 4, 2) ∧ 20 + 2 = 22 := ⟨by decide +kernel, rfl⟩
theorem dX8_manyOf_22 : decode cX8_manyOf 22 = .ok (.invokevirtual 188, 3) := by decide +kernel
theorem dX8_manyOf_25 : decode cX8_manyOf 25 = .ok (.goto 10, 3) ∧ ((25 : Nat) : Int) + (10) = ((35 : Nat) : Int) := ⟨by decide +kernel, by decide⟩
theorem dX8_manyOf_28 : decode cX8_manyOf 28 = .ok (.aload_n 0, 1) ∧ 28 + 1 = 29 := ⟨by decide +kernel, rfl⟩
theorem dX8_manyOf_29 : decode cX8_manyOf 29 = .ok (.iload_n 1, 1) ∧ 29 + 1 = 30 := ⟨by decide +kernel, rfl⟩
theorem dX8_manyOf_30 : decode cX8_manyOf 30 = .ok (.iload 4, 2) ∧ 30 + 2 = 32 := ⟨by decide +kernel, rfl⟩
theorem dX8_manyOf_32 : decode cX8_manyOf 32 = .ok (.invokevirtual 192, 3) := by decide +kernel
theorem dX8_manyOf_35 : decode cX8_manyOf 35 = .ok (.istore 5, 2) ∧ 35 + 2 = 37 := ⟨by decide +kernel, rfl⟩
theorem dX8_manyOf_37 : decode cX8_manyOf 37 = .ok (.iload_n 3, 1) ∧ 37 + 1 = 38 := ⟨by decide +kernel, rfl⟩
theorem dX8_manyOf_38 : decode cX8_manyOf 38 = .ok (.iload 5, 2) ∧ 38 + 2 = 40 := ⟨by decide +kernel, rfl⟩
theorem dX8_manyOf_40 : decode cX8_manyOf 40 = .ok (.ifCond .eq 7, 3) ∧ 40 + 3 = 43 ∧ ((40 : Nat) : Int) + (7) = ((47 : Nat) : Int) := ⟨by decide +kernel, rfl, by decide⟩
theorem dX8_manyOf_43 : decode cX8_manyOf 43 = .ok (.iconst 1, 1) ∧ 43 + 1 = 44 := ⟨by decide +kernel, rfl⟩
theorem dX8_manyOf_44 : decode cX8_manyOf 44 = .ok (.goto 4, 3) ∧ ((44 : Nat) : Int) + (4) = ((48 : Nat) : Int) := ⟨by decide +kernel, by decide⟩
theorem dX8_manyOf_47 : decode cX8_manyOf 47 = .ok (.iconst 0, 1) ∧ 47 + 1 = 48 := ⟨by decide +kernel, rfl⟩
theorem dX8_manyOf_48 : decode cX8_manyOf 48 = .ok (.iadd, 1) ∧ 48 + 1 = 49 := ⟨by decide +kernel, rfl⟩
theorem dX8_manyOf_49 : decode cX8_manyOf 49 = .ok (.istore_n 3, 1) ∧ 49 + 1 = 50 := ⟨by decide +kernel, rfl⟩
theorem dX8_manyOf_50 : decode cX8_manyOf 50 = .ok (.iinc 4 1, 3) ∧ 50 + 3 = 53 := ⟨by decide +kernel, rfl⟩
theorem dX8_manyOf_53 : decode cX8_manyOf 53 = .ok (.goto (-48), 3) ∧ ((53 : Nat) : Int) + (-48) = ((5 : Nat) : Int) := ⟨by decide +kernel, by decide⟩
theorem dX8_manyOf_56 : decode cX8_manyOf 56 = .ok (.iload_n 3, 1) ∧ 56 + 1 = 57 := ⟨by decide +kernel, rfl⟩
theorem dX8_manyOf_57 : decode cX8_manyOf 57 = .ok (.ireturn, 1) := by decide +kernel
def B_X8_manyOf_48 (k5 : Hp → Int32 → Int32 → Option (Int32 × Hp)) (fu : Nat) (o : Nat) (S : Hp) (x1 : Int32) (x2 : Int32) (x4 : Int32) (s0 : Int32) (s1 : Int32) : Option (Int32 × Hp) :=
  k5 S (s1 + s0) (x4 + (1 : Int32))
set_option maxRecDepth 100000 in
set_option maxHeartbeats 4000000 in
theorem w_X8_manyOf_48 {E : Cx} {l : Launch} {res : Int32 × Hp} {ad : Nat → Nat} {k5 : Hp → Int32 → Int32 → Option (Int32 × Hp)} {fu : Nat} {o : Nat} {S : Hp} {x1 : Int32} {x2 : Int32} {x4 : Int32} {s0 : Int32} {s1 : Int32} (K : Kx E cX8_manyOf RX8 (rmd 1 0 0)) (X : Bx E l yX8_manyOf 6 (some .int) 0 0 ad (QI res)) (hk5 : ∀ (S : Hp) (x3 : Int32) (x4 : Int32), k5 S x3 x4 = some res → J E 0 0 5 [(0, vR (some o)), (1, vI x1), (2, vI x2), (3, vI x3), (4, vI x4)] [] S ad) (h : B_X8_manyOf_48 k5 fu o S x1 x2 x4 s0 s1 = some res) : J E 0 0 48 [(0, vR (some o)), (1, vI x1), (2, vI x2), (4, vI x4)] [vI s0, vI s1] S ad := by
  refine j_iadd K dX8_manyOf_48 ?_
  refine j_istore_n (lv' := [(3, vI (s1 + s0)), (0, vR (some o)), (1, vI x1), (2, vI x2), (4, vI x4)]) K dX8_manyOf_49 rfl X.2.2.1 (by decide) rfl ?_
  refine j_iinc (q := 4) (v := (x4 + (1 : Int32))) (lv' := [(4, vI (x4 + (1 : Int32))), (3, vI (s1 + s0)), (0, vR (some o)), (1, vI x1), (2, vI x2)]) K dX8_manyOf_50 rfl rfl X.2.2.1 (by decide) rfl ?_
  refine j_goto K dX8_manyOf_53 ?_
  exact j_sub [2, 3, 4, 1, 0] rfl (hk5 _ _ _ h)
def B_X8_manyOf_35 (k5 : Hp → Int32 → Int32 → Option (Int32 × Hp)) (fu : Nat) (o : Nat) (S : Hp) (x1 : Int32) (x2 : Int32) (x3 : Int32) (x4 : Int32) (s0 : Int32) : Option (Int32 × Hp) :=
  if s0 = 0 then
    B_X8_manyOf_48 k5 fu o S x1 x2 x4 (0 : Int32) x3
  else
    B_X8_manyOf_48 k5 fu o S x1 x2 x4 (1 : Int32) x3
set_option maxRecDepth 100000 in
set_option maxHeartbeats 4000000 in
theorem w_X8_manyOf_35 {E : Cx} {l : Launch} {res : Int32 × Hp} {ad : Nat → Nat} {k5 : Hp → Int32 → Int32 → Option (Int32 × Hp)} {fu : Nat} {o : Nat} {S : Hp} {x1 : Int32} {x2 : Int32} {x3 : Int32} {x4 : Int32} {s0 : Int32} (K : Kx E cX8_manyOf RX8 (rmd 1 0 0)) (X : Bx E l yX8_manyOf 6 (some .int) 0 0 ad (QI res)) (hk5 : ∀ (S : Hp) (x3 : Int32) (x4 : Int32), k5 S x3 x4 = some res → J E 0 0 5 [(0, vR (some o)), (1, vI x1), (2, vI x2), (3, vI x3), (4, vI x4)] [] S ad) (h : B_X8_manyOf_35 k5 fu o S x1 x2 x3 x4 s0 = some res) : J E 0 0 35 [(0, vR (some o)), (1, vI x1), (2, vI x2), (3, vI x3), (4, vI x4)] [vI s0] S ad := by
  refine j_istore (lv' := [(5, vI s0), (0, vR (some o)), (1, vI x1), (2, vI x2), (3, vI x3), (4, vI x4)]) K dX8_manyOf_35 X.2.2.1 (by decide) rfl ?_
  refine j_iload_n K dX8_manyOf_37 rfl 4 rfl ?_
  refine j_iload K dX8_manyOf_38 0 rfl ?_
  refine j_if_eq K dX8_manyOf_40 (fun c40 => ?_) (fun c40 => ?_)
  · replace h := it c40 h
    refine j_iconst (v := (0 : Int32)) K dX8_manyOf_47 (by decide) ?_
    exact j_sub [1, 2, 3, 5] rfl (w_X8_manyOf_48 K X hk5 h)
  · replace h := ie c40 h
    refine j_iconst (v := (1 : Int32)) K dX8_manyOf_43 (by decide) ?_
    refine j_goto K dX8_manyOf_44 ?_
    exact j_sub [1, 2, 3, 5] rfl (w_X8_manyOf_48 K X hk5 h)
def L_X8_manyOf_5 (k5 : Hp → Int32 → Int32 → Option (Int32 × Hp)) (fu : Nat) (o : Nat) (x1 : Int32) (x2 : Int32) (S : Hp) (x3 : Int32) (x4 : Int32) : Option (Int32 × Hp) :=
  (gI S (some o) 6 7).bind fun v8 =>
  if v8 ≤ x4 then
    some (x3, S)
  else
    if x2 = 0 then
      (ob S 6 (some o)).bind fun _ =>
      b2 (F_X8_saw0 S o x1 x4) fun v32 S32 =>
      B_X8_manyOf_35 k5 fu o S32 x1 x2 x3 x4 v32
    else
      (ob S 6 (some o)).bind fun _ =>
      b2 (F_X8_did S o x1 x4) fun v22 S22 =>
      B_X8_manyOf_35 k5 fu o S22 x1 x2 x3 x4 v22
set_option maxRecDepth 100000 in
set_option maxHeartbeats 4000000 in
theorem wl_X8_manyOf_5 {E : Cx} {l : Launch} {res : Int32 × Hp} {ad : Nat → Nat} {k5 : Hp → Int32 → Int32 → Option (Int32 × Hp)} {fu : Nat} {o : Nat} {S : Hp} {x1 : Int32} {x2 : Int32} {x3 : Int32} {x4 : Int32} (K : Kx E cX8_manyOf RX8 (rmd 1 0 0)) (X : Bx E l yX8_manyOf 6 (some .int) 0 0 ad (QI res)) (hk5 : ∀ (S : Hp) (x3 : Int32) (x4 : Int32), k5 S x3 x4 = some res → J E 0 0 5 [(0, vR (some o)), (1, vI x1), (2, vI x2), (3, vI x3), (4, vI x4)] [] S ad) (h : L_X8_manyOf_5 k5 fu o x1 x2 S x3 x4 = some res) : J E 0 0 5 [(0, vR (some o)), (1, vI x1), (2, vI x2), (3, vI x3), (4, vI x4)] [] S ad := by
  refine j_iload K dX8_manyOf_5 4 rfl ?_
  refine j_aload_n K dX8_manyOf_7 rfl 0 rfl ?_
  obtain ⟨v8, e8, h⟩ := bd h
  refine fgX8_91 K dX8_manyOf_8 e8 ?_
  refine j_icmp_ge K dX8_manyOf_11 (fun c11 => ?_) (fun c11 => ?_)
  · replace h := it c11 h
    refine j_iload_n K dX8_manyOf_56 rfl 3 rfl ?_
    exact j_iret K X dX8_manyOf_57 h
  · replace h := ie c11 h
    refine j_iload_n K dX8_manyOf_14 rfl 2 rfl ?_
    refine j_if_eq K dX8_manyOf_15 (fun c15 => ?_) (fun c15 => ?_)
    · replace h := it c15 h
      refine j_aload_n K dX8_manyOf_28 rfl 0 rfl ?_
      refine j_iload_n K dX8_manyOf_29 rfl 1 rfl ?_
      refine j_iload K dX8_manyOf_30 4 rfl ?_
      obtain ⟨w32, ew32, h⟩ := bd h
      have ho32 := obS ew32
      obtain ⟨v32, S32, e32, h⟩ := bd2 h
      refine j_cI (st := []) K (r_V (vs := [vI x1, vI x4]) (n := 2) (o := o) K (c_X8_saw0 e32) ho32 (by decide) rfl dX8_manyOf_32 z1044 z1046 zs40 z13 z1047 ⟨zd_X8_saw0, rfl, rfl, rfl, ⟨Nat.le_of_ble_eq_true rfl, Nat.le_of_ble_eq_true rfl⟩, Nat.le_of_ble_eq_true rfl, Nat.le_of_ble_eq_true rfl, Nat.le_of_ble_eq_true rfl⟩) rfl ?_
      exact w_X8_manyOf_35 K X hk5 h
    · replace h := ie c15 h
      refine j_aload_n K dX8_manyOf_18 rfl 0 rfl ?_
      refine j_iload_n K dX8_manyOf_19 rfl 1 rfl ?_
      refine j_iload K dX8_manyOf_20 4 rfl ?_
      obtain ⟨w22, ew22, h⟩ := bd h
      have ho22 := obS ew22
      obtain ⟨v22, S22, e22, h⟩ := bd2 h
      refine j_cI (st := []) K (r_V (vs := [vI x1, vI x4]) (n := 2) (o := o) K (c_X8_did e22) ho22 (by decide) rfl dX8_manyOf_22 z1040 z1042 zs39 z13 z1043 ⟨zd_X8_did, rfl, rfl, rfl, ⟨Nat.le_of_ble_eq_true rfl, Nat.le_of_ble_eq_true rfl⟩, Nat.le_of_ble_eq_true rfl, Nat.le_of_ble_eq_true rfl, Nat.le_of_ble_eq_true rfl⟩) rfl ?_
      refine j_goto K dX8_manyOf_25 ?_
      exact w_X8_manyOf_35 K X hk5 h
def B_X8_manyOf_5 (fu : Nat) (o : Nat) (x1 : Int32) (x2 : Int32) : Nat → Hp → Int32 → Int32 → Option (Int32 × Hp)
  | 0 => fun _ _ _ => none
  | n + 1 => L_X8_manyOf_5 (B_X8_manyOf_5 fu o x1 x2 n) fu o x1 x2
theorem w_X8_manyOf_5 {E : Cx} {l : Launch} {res : Int32 × Hp} {ad : Nat → Nat} {fu : Nat} {o : Nat} {x1 : Int32} {x2 : Int32} (K : Kx E cX8_manyOf RX8 (rmd 1 0 0)) (X : Bx E l yX8_manyOf 6 (some .int) 0 0 ad (QI res)) : ∀ (n : Nat) (S : Hp) (x3 : Int32) (x4 : Int32), B_X8_manyOf_5 fu o x1 x2 n S x3 x4 = some res → J E 0 0 5 [(0, vR (some o)), (1, vI x1), (2, vI x2), (3, vI x3), (4, vI x4)] [] S ad := by
  intro n
  induction n with
  | zero =>
    intro S x3 x4 h
    cases h
  | succ n ih =>
    intro S x3 x4 h
    exact wl_X8_manyOf_5 K X ih h
def F_X8_manyOf (fu : Nat) (S : Hp) (o : Nat) (x1 : Int32) (x2 : Int32) : Option (Int32 × Hp) :=
  B_X8_manyOf_5 fu o x1 x2 fu S (0 : Int32) (0 : Int32)
set_option maxRecDepth 100000 in
set_option maxHeartbeats 4000000 in
theorem w_X8_manyOf {E : Cx} {l : Launch} {res : Int32 × Hp} {ad : Nat → Nat} {fu : Nat} {S : Hp} {o : Nat} {x1 : Int32} {x2 : Int32} (K : Kx E cX8_manyOf RX8 (rmd 1 0 0)) (X : Bx E l yX8_manyOf 6 (some .int) 0 0 ad (QI res)) (h : F_X8_manyOf fu S o x1 x2 = some res) : J E 0 0 0 [(0, vR (some o)), (1, vI x1), (2, vI x2)] [] S ad := by
  refine j_iconst (v := (0 : Int32)) K dX8_manyOf_0 (by decide) ?_
  refine j_istore_n (lv' := [(3, vI (0 : Int32)), (0, vR (some o)), (1, vI x1), (2, vI x2)]) K dX8_manyOf_1 rfl X.2.2.1 (by decide) rfl ?_
  refine j_iconst (v := (0 : Int32)) K dX8_manyOf_2 (by decide) ?_
  refine j_istore (lv' := [(4, vI (0 : Int32)), (3, vI (0 : Int32)), (0, vR (some o)), (1, vI x1), (2, vI x2)]) K dX8_manyOf_3 X.2.2.1 (by decide) rfl ?_
  exact j_sub [2, 3, 4, 1, 0] rfl (w_X8_manyOf_5 K X _ _ _ _ h)
theorem c_X8_manyOf {l : Launch} {fu : Nat} {S : Hp} {o : Nat} {x1 : Int32} {x2 : Int32} {res : Int32 × Hp} (h : F_X8_manyOf fu S o x1 x2 = some res) : Ct l yX8_manyOf cX8_manyOf 6 (some .int) (rmd 1 0 0) 0 0 [vR (some o), vI x1, vI x2] S (QI res) :=
  z_entry (by decide +kernel) (Nat.le_of_ble_eq_true rfl) (fun E ad K X => w_X8_manyOf K X h)

theorem dX8_told_0 : decode cX8_told 0 = .ok (.aload_n 0, 1) ∧ 0 + 1 = 1 := ⟨by decide +kernel, rfl⟩
theorem dX8_told_1 : decode cX8_told 1 = .ok (.iload_n 1, 1) ∧ 1 + 1 = 2 := ⟨by decide +kernel, rfl⟩
theorem dX8_told_2 : decode cX8_told 2 = .ok (.invokevirtual 182, 3) := by decide +kernel
theorem dX8_told_5 : decode cX8_told 5 = .ok (.ifCond .ne 6, 3) ∧ 5 + 3 = 8 ∧ ((5 : Nat) : Int) + (6) = ((11 : Nat) : Int) := ⟨by decide +kernel, rfl, by decide⟩
theorem dX8_told_8 : decode cX8_told 8 = .ok (.bipush (-5), 2) ∧ 8 + 2 = 10 := ⟨by decide +kernel, rfl⟩
theorem dX8_told_10 : decode cX8_told 10 = .ok (.ireturn, 1) := by decide +kernel
theorem dX8_told_11 : decode cX8_told 11 = .ok (.iload_n 2, 1) ∧ 11 + 1 = 12 := ⟨by decide +kernel, rfl⟩
theorem dX8_told_12 : decode cX8_told 12 = .ok (.tableswitch 79 0 5 #[40, 40, 51, 58, 65, 72], 40) := by decide +kernel
theorem dX8_told_52 : decode cX8_told 52 = .ok (.aload_n 0, 1) ∧ 52 + 1 = 53 := ⟨by decide +kernel, rfl⟩
theorem dX8_told_53 : decode cX8_told 53 = .ok (.getfield 16, 3) ∧ 53 + 3 = 56 := ⟨by decide +kernel, rfl⟩
theorem dX8_told_56 : decode cX8_told 56 = .ok (.iconst 2, 1) ∧ 56 + 1 = 57 := ⟨by decide +kernel, rfl⟩
theorem dX8_told_57 : decode cX8_told 57 = .ok (.iload_n 1, 1) ∧ 57 + 1 = 58 := ⟨by decide +kernel, rfl⟩
theorem dX8_told_58 : decode cX8_told 58 = .ok (.imul, 1) ∧ 58 + 1 = 59 := ⟨by decide +kernel, rfl⟩
theorem dX8_told_59 : decode cX8_told 59 = .ok (.iload_n 2, 1) ∧ 59 + 1 = 60 := ⟨by decide +kernel, rfl⟩
theorem dX8_told_60 : decode cX8_told 60 = .ok (.iadd, 1) ∧ 60 + 1 = 61 := ⟨by decide +kernel, rfl⟩
theorem dX8_told_61 : decode cX8_told 61 = .ok (.iaload, 1) ∧ 61 + 1 = 62 := ⟨by decide +kernel, rfl⟩
theorem dX8_told_62 : decode cX8_told 62 = .ok (.ireturn, 1) := by decide +kernel
theorem dX8_told_63 : decode cX8_told 63 = .ok (.aload_n 0, 1) ∧ 63 + 1 = 64 := ⟨by decide +kernel, rfl⟩
theorem dX8_told_64 : decode cX8_told 64 = .ok (.getfield 7, 3) ∧ 64 + 3 = 67 := ⟨by decide +kernel, rfl⟩
theorem dX8_told_67 : decode cX8_told 67 = .ok (.iload_n 1, 1) ∧ 67 + 1 = 68 := ⟨by decide +kernel, rfl⟩
theorem dX8_told_68 : decode cX8_told 68 = .ok (.iaload, 1) ∧ 68 + 1 = 69 := ⟨by decide +kernel, rfl⟩
theorem dX8_told_69 : decode cX8_told 69 = .ok (.ireturn, 1) := by decide +kernel
theorem dX8_told_70 : decode cX8_told 70 = .ok (.aload_n 0, 1) ∧ 70 + 1 = 71 := ⟨by decide +kernel, rfl⟩
theorem dX8_told_71 : decode cX8_told 71 = .ok (.getfield 13, 3) ∧ 71 + 3 = 74 := ⟨by decide +kernel, rfl⟩
theorem dX8_told_74 : decode cX8_told 74 = .ok (.iload_n 1, 1) ∧ 74 + 1 = 75 := ⟨by decide +kernel, rfl⟩
theorem dX8_told_75 : decode cX8_told 75 = .ok (.iaload, 1) ∧ 75 + 1 = 76 := ⟨by decide +kernel, rfl⟩
theorem dX8_told_76 : decode cX8_told 76 = .ok (.ireturn, 1) := by decide +kernel
theorem dX8_told_77 : decode cX8_told 77 = .ok (.aload_n 0, 1) ∧ 77 + 1 = 78 := ⟨by decide +kernel, rfl⟩
theorem dX8_told_78 : decode cX8_told 78 = .ok (.iload_n 1, 1) ∧ 78 + 1 = 79 := ⟨by decide +kernel, rfl⟩
theorem dX8_told_79 : decode cX8_told 79 = .ok (.iconst 1, 1) ∧ 79 + 1 = 80 := ⟨by decide +kernel, rfl⟩
theorem dX8_told_80 : decode cX8_told 80 = .ok (.invokevirtual 195, 3) := by decide +kernel
theorem dX8_told_83 : decode cX8_told 83 = .ok (.ireturn, 1) := by decide +kernel
theorem dX8_told_84 : decode cX8_told 84 = .ok (.aload_n 0, 1) ∧ 84 + 1 = 85 := ⟨by decide +kernel, rfl⟩
theorem dX8_told_85 : decode cX8_told 85 = .ok (.iload_n 1, 1) ∧ 85 + 1 = 86 := ⟨by decide +kernel, rfl⟩
theorem dX8_told_86 : decode cX8_told 86 = .ok (.iconst 0, 1) ∧ 86 + 1 = 87 := ⟨by decide +kernel, rfl⟩
theorem dX8_told_87 : decode cX8_told 87 = .ok (.invokevirtual 195, 3) := by decide +kernel
theorem dX8_told_90 : decode cX8_told 90 = .ok (.ireturn, 1) := by decide +kernel
theorem dX8_told_91 : decode cX8_told 91 = .ok (.bipush (-7), 2) ∧ 91 + 2 = 93 := ⟨by decide +kernel, rfl⟩
theorem dX8_told_93 : decode cX8_told 93 = .ok (.ireturn, 1) := by decide +kernel
def F_X8_told (fu : Nat) (S : Hp) (o : Nat) (x1 : Int32) (x2 : Int32) : Option (Int32 × Hp) :=
  (ob S 6 (some o)).bind fun _ =>
  b2 (F_X8_isOne S o x1) fun v2 S2 =>
  if v2 = 0 then
    some ((-5 : Int32), S2)
  else
    if x2 = 0 then
      (gR S2 (some o) 6 3).bind fun v53 =>
      (aG S2 v53 (((2 : Int32) * x1) + x2)).bind fun v61 =>
      some (v61, S2)
    else
    if x2 = 1 then
      (gR S2 (some o) 6 3).bind fun v53 =>
      (aG S2 v53 (((2 : Int32) * x1) + x2)).bind fun v61 =>
      some (v61, S2)
    else
    if x2 = 2 then
      (gR S2 (some o) 6 1).bind fun v64 =>
      (aG S2 v64 x1).bind fun v68 =>
      some (v68, S2)
    else
    if x2 = 3 then
      (gR S2 (some o) 6 2).bind fun v71 =>
      (aG S2 v71 x1).bind fun v75 =>
      some (v75, S2)
    else
    if x2 = 4 then
      (ob S2 6 (some o)).bind fun _ =>
      b2 (F_X8_manyOf fu S2 o x1 (1 : Int32)) fun v80 S80 =>
      some (v80, S80)
    else
    if x2 = 5 then
      (ob S2 6 (some o)).bind fun _ =>
      b2 (F_X8_manyOf fu S2 o x1 (0 : Int32)) fun v87 S87 =>
      some (v87, S87)
    else
    some ((-7 : Int32), S2)
set_option maxRecDepth 100000 in
set_option maxHeartbeats 4000000 in
theorem w_X8_told {E : Cx} {l : Launch} {res : Int32 × Hp} {ad : Nat → Nat} {fu : Nat} {S : Hp} {o : Nat} {x1 : Int32} {x2 : Int32} (K : Kx E cX8_told RX8 (rmd 2 0 0)) (X : Bx E l yX8_told 3 (some .int) 0 0 ad (QI res)) (h : F_X8_told fu S o x1 x2 = some res) : J E 0 0 0 [(0, vR (some o)), (1, vI x1), (2, vI x2)] [] S ad := by
  refine j_aload_n K dX8_told_0 rfl 0 rfl ?_
  refine j_iload_n K dX8_told_1 rfl 1 rfl ?_
  obtain ⟨w2, ew2, h⟩ := bd h
  have ho2 := obS ew2
  obtain ⟨v2, S2, e2, h⟩ := bd2 h
  refine j_cI (st := []) K (r_V (vs := [vI x1]) (n := 1) (o := o) K (c_X8_isOne e2) ho2 (by decide) rfl dX8_told_2 z1003 z1005 zs35 z13 z1006 ⟨zd_X8_isOne, rfl, rfl, rfl, ⟨Nat.le_of_ble_eq_true rfl, Nat.le_of_ble_eq_true rfl⟩, Nat.le_of_ble_eq_true rfl, Nat.le_of_ble_eq_true rfl, Nat.le_of_ble_eq_true rfl⟩) rfl ?_
  refine j_if_ne K dX8_told_5 (fun c5 => ?_) (fun c5 => ?_)
  · replace h := ie c5 h
    refine j_iload_n K dX8_told_11 rfl 2 rfl ?_
    by_cases c12_0 : x2 = 0
    · replace h := it c12_0 h
      have t12 : x2.toInt = 0 := by rw [c12_0]; rfl
      refine j_tin (tgt := 52) K dX8_told_12 (by rw [t12]; decide) (by rw [t12]; decide) (by rw [t12]; rfl) (by decide) ?_
      refine j_aload_n K dX8_told_52 rfl 0 rfl ?_
      obtain ⟨v53, e53, h⟩ := bd h
      refine fgX8_16 K dX8_told_53 e53 ?_
      refine j_iconst (v := (2 : Int32)) K dX8_told_56 (by decide) ?_
      refine j_iload_n K dX8_told_57 rfl 1 rfl ?_
      refine j_imul K dX8_told_58 ?_
      refine j_iload_n K dX8_told_59 rfl 2 rfl ?_
      refine j_iadd K dX8_told_60 ?_
      obtain ⟨v61, e61, h⟩ := bd h
      refine j_aG K dX8_told_61 e61 ?_
      exact j_iret K X dX8_told_62 h
    replace h := ie c12_0 h
    by_cases c12_1 : x2 = 1
    · replace h := it c12_1 h
      have t12 : x2.toInt = 1 := by rw [c12_1]; rfl
      refine j_tin (tgt := 52) K dX8_told_12 (by rw [t12]; decide) (by rw [t12]; decide) (by rw [t12]; rfl) (by decide) ?_
      refine j_aload_n K dX8_told_52 rfl 0 rfl ?_
      obtain ⟨v53, e53, h⟩ := bd h
      refine fgX8_16 K dX8_told_53 e53 ?_
      refine j_iconst (v := (2 : Int32)) K dX8_told_56 (by decide) ?_
      refine j_iload_n K dX8_told_57 rfl 1 rfl ?_
      refine j_imul K dX8_told_58 ?_
      refine j_iload_n K dX8_told_59 rfl 2 rfl ?_
      refine j_iadd K dX8_told_60 ?_
      obtain ⟨v61, e61, h⟩ := bd h
      refine j_aG K dX8_told_61 e61 ?_
      exact j_iret K X dX8_told_62 h
    replace h := ie c12_1 h
    by_cases c12_2 : x2 = 2
    · replace h := it c12_2 h
      have t12 : x2.toInt = 2 := by rw [c12_2]; rfl
      refine j_tin (tgt := 63) K dX8_told_12 (by rw [t12]; decide) (by rw [t12]; decide) (by rw [t12]; rfl) (by decide) ?_
      refine j_aload_n K dX8_told_63 rfl 0 rfl ?_
      obtain ⟨v64, e64, h⟩ := bd h
      refine fgX8_7 K dX8_told_64 e64 ?_
      refine j_iload_n K dX8_told_67 rfl 1 rfl ?_
      obtain ⟨v68, e68, h⟩ := bd h
      refine j_aG K dX8_told_68 e68 ?_
      exact j_iret K X dX8_told_69 h
    replace h := ie c12_2 h
    by_cases c12_3 : x2 = 3
    · replace h := it c12_3 h
      have t12 : x2.toInt = 3 := by rw [c12_3]; rfl
      refine j_tin (tgt := 70) K dX8_told_12 (by rw [t12]; decide) (by rw [t12]; decide) (by rw [t12]; rfl) (by decide) ?_
      refine j_aload_n K dX8_told_70 rfl 0 rfl ?_
      obtain ⟨v71, e71, h⟩ := bd h
      refine fgX8_13 K dX8_told_71 e71 ?_
      refine j_iload_n K dX8_told_74 rfl 1 rfl ?_
      obtain ⟨v75, e75, h⟩ := bd h
      refine j_aG K dX8_told_75 e75 ?_
      exact j_iret K X dX8_told_76 h
    replace h := ie c12_3 h
    by_cases c12_4 : x2 = 4
    · replace h := it c12_4 h
      have t12 : x2.toInt = 4 := by rw [c12_4]; rfl
      refine j_tin (tgt := 77) K dX8_told_12 (by rw [t12]; decide) (by rw [t12]; decide) (by rw [t12]; rfl) (by decide) ?_
      refine j_aload_n K dX8_told_77 rfl 0 rfl ?_
      refine j_iload_n K dX8_told_78 rfl 1 rfl ?_
      refine j_iconst (v := (1 : Int32)) K dX8_told_79 (by decide) ?_
      obtain ⟨w80, ew80, h⟩ := bd h
      have ho80 := obS ew80
      obtain ⟨v80, S80, e80, h⟩ := bd2 h
      refine j_cI (st := []) K (r_V (vs := [vI x1, vI (1 : Int32)]) (n := 2) (o := o) K (c_X8_manyOf e80) ho80 (by decide) rfl dX8_told_80 z1036 z1038 zs38 z13 z1039 ⟨zd_X8_manyOf, rfl, rfl, rfl, ⟨Nat.le_of_ble_eq_true rfl, Nat.le_of_ble_eq_true rfl⟩, Nat.le_of_ble_eq_true rfl, Nat.le_of_ble_eq_true rfl, Nat.le_of_ble_eq_true rfl⟩) rfl ?_
      exact j_iret K X dX8_told_83 h
    replace h := ie c12_4 h
    by_cases c12_5 : x2 = 5
    · replace h := it c12_5 h
      have t12 : x2.toInt = 5 := by rw [c12_5]; rfl
      refine j_tin (tgt := 84) K dX8_told_12 (by rw [t12]; decide) (by rw [t12]; decide) (by rw [t12]; rfl) (by decide) ?_
      refine j_aload_n K dX8_told_84 rfl 0 rfl ?_
      refine j_iload_n K dX8_told_85 rfl 1 rfl ?_
      refine j_iconst (v := (0 : Int32)) K dX8_told_86 (by decide) ?_
      obtain ⟨w87, ew87, h⟩ := bd h
      have ho87 := obS ew87
      obtain ⟨v87, S87, e87, h⟩ := bd2 h
      refine j_cI (st := []) K (r_V (vs := [vI x1, vI (0 : Int32)]) (n := 2) (o := o) K (c_X8_manyOf e87) ho87 (by decide) rfl dX8_told_87 z1036 z1038 zs38 z13 z1039 ⟨zd_X8_manyOf, rfl, rfl, rfl, ⟨Nat.le_of_ble_eq_true rfl, Nat.le_of_ble_eq_true rfl⟩, Nat.le_of_ble_eq_true rfl, Nat.le_of_ble_eq_true rfl, Nat.le_of_ble_eq_true rfl⟩) rfl ?_
      exact j_iret K X dX8_told_90 h
    replace h := ie c12_5 h
    have t12_0 : x2.toInt ≠ 0 := swn rfl c12_0
    have t12_1 : x2.toInt ≠ 1 := swn rfl c12_1
    have t12_2 : x2.toInt ≠ 2 := swn rfl c12_2
    have t12_3 : x2.toInt ≠ 3 := swn rfl c12_3
    have t12_4 : x2.toInt ≠ 4 := swn rfl c12_4
    have t12_5 : x2.toInt ≠ 5 := swn rfl c12_5
    refine j_tout (tgt := 91) K dX8_told_12 (by omega) (by decide) ?_
    refine j_bipush (v := (-7 : Int32)) K dX8_told_91 (by decide) ?_
    exact j_iret K X dX8_told_93 h
  · replace h := it c5 h
    refine j_bipush (v := (-5 : Int32)) K dX8_told_8 (by decide) ?_
    exact j_iret K X dX8_told_10 h
theorem c_X8_told {l : Launch} {fu : Nat} {S : Hp} {o : Nat} {x1 : Int32} {x2 : Int32} {res : Int32 × Hp} (h : F_X8_told fu S o x1 x2 = some res) : Ct l yX8_told cX8_told 3 (some .int) (rmd 2 0 0) 0 0 [vR (some o), vI x1, vI x2] S (QI res) :=
  z_entry (by decide +kernel) (Nat.le_of_ble_eq_true rfl) (fun E ad K X => w_X8_told K X h)

theorem dX8_strokesOf_0 : decode cX8_strokesOf 0 = .ok (.aload_n 0, 1) ∧ 0 + 1 = 1 := ⟨by decide +kernel, rfl⟩
theorem dX8_strokesOf_1 : decode cX8_strokesOf 1 = .ok (.getfield 7, 3) ∧ 1 + 3 = 4 := ⟨by decide +kernel, rfl⟩
theorem dX8_strokesOf_4 : decode cX8_strokesOf 4 = .ok (.iload_n 1, 1) ∧ 4 + 1 = 5 := ⟨by decide +kernel, rfl⟩
theorem dX8_strokesOf_5 : decode cX8_strokesOf 5 = .ok (.iaload, 1) ∧ 5 + 1 = 6 := ⟨by decide +kernel, rfl⟩
theorem dX8_strokesOf_6 : decode cX8_strokesOf 6 = .ok (.iconst 5, 1) ∧ 6 + 1 = 7 := ⟨by decide +kernel, rfl⟩
theorem dX8_strokesOf_7 : decode cX8_strokesOf 7 = .ok (.if_icmp .ne 24, 3) ∧ 7 + 3 = 10 ∧ ((7 : Nat) : Int) + (24) = ((31 : Nat) : Int) := ⟨by decide +kernel, rfl, by decide⟩
theorem dX8_strokesOf_10 : decode cX8_strokesOf 10 = .ok (.aload_n 0, 1) ∧ 10 + 1 = 11 := ⟨by decide +kernel, rfl⟩
theorem dX8_strokesOf_11 : decode cX8_strokesOf 11 = .ok (.getfield 22, 3) ∧ 11 + 3 = 14 := ⟨by decide +kernel, rfl⟩
theorem dX8_strokesOf_14 : decode cX8_strokesOf 14 = .ok (.iload_n 2, 1) ∧ 14 + 1 = 15 := ⟨by decide +kernel, rfl⟩
theorem dX8_strokesOf_15 : decode cX8_strokesOf 15 = .ok (.iaload, 1) ∧ 15 + 1 = 16 := ⟨by decide +kernel, rfl⟩
theorem dX8_strokesOf_16 : decode cX8_strokesOf 16 = .ok (.aload_n 0, 1) ∧ 16 + 1 = 17 := ⟨by decide +kernel, rfl⟩
theorem dX8_strokesOf_17 : decode cX8_strokesOf 17 = .ok (.getfield 13, 3) ∧ 17 + 3 = 20 := ⟨by decide +kernel, rfl⟩
theorem dX8_strokesOf_20 : decode cX8_strokesOf 20 = .ok (.iload_n 1, 1) ∧ 20 + 1 = 21 := ⟨by decide +kernel, rfl⟩
theorem dX8_strokesOf_21 : decode cX8_strokesOf 21 = .ok (.iaload, 1) ∧ 21 + 1 = 22 := ⟨by decide +kernel, rfl⟩
theorem dX8_strokesOf_22 : decode cX8_strokesOf 22 = .ok (.if_icmp .le 7, 3) ∧ 22 + 3 = 25 ∧ ((22 : Nat) : Int) + (7) = ((29 : Nat) : Int) := ⟨by decide +kernel, rfl, by decide⟩
theorem dX8_strokesOf_25 : decode cX8_strokesOf 25 = .ok (.iconst 1, 1) ∧ 25 + 1 = 26 := ⟨by decide +kernel, rfl⟩
theorem dX8_strokesOf_26 : decode cX8_strokesOf 26 = .ok (.goto 4, 3) ∧ ((26 : Nat) : Int) + (4) = ((30 : Nat) : Int) := ⟨by decide +kernel, by decide⟩
theorem dX8_strokesOf_29 : decode cX8_strokesOf 29 = .ok (.iconst 0, 1) ∧ 29 + 1 = 30 := ⟨by decide +kernel, rfl⟩
theorem dX8_strokesOf_30 : decode cX8_strokesOf 30 = .ok (.ireturn, 1) := by decide +kernel
theorem dX8_strokesOf_31 : decode cX8_strokesOf 31 = .ok (.aload_n 0, 1) ∧ 31 + 1 = 32 := ⟨by decide +kernel, rfl⟩
theorem dX8_strokesOf_32 : decode cX8_strokesOf 32 = .ok (.iconst 0, 1) ∧ 32 + 1 = 33 := ⟨by decide +kernel, rfl⟩
theorem dX8_strokesOf_33 : decode cX8_strokesOf 33 = .ok (.iload_n 1, 1) ∧ 33 + 1 = 34 := ⟨by decide +kernel, rfl⟩
theorem dX8_strokesOf_34 : decode cX8_strokesOf 34 = .ok (.iload_n 2, 1) ∧ 34 + 1 = 35 := ⟨by decide +kernel, rfl⟩
theorem dX8_strokesOf_35 : decode cX8_strokesOf 35 = .ok (.invokevirtual 185, 3) := by decide +kernel
theorem dX8_strokesOf_38 : decode cX8_strokesOf 38 = .ok (.istore_n 3, 1) ∧ 38 + 1 = 39 := ⟨by decide +kernel, rfl⟩
theorem dX8_strokesOf_39 : decode cX8_strokesOf 39 = .ok (.aload_n 0, 1) ∧ 39 + 1 = 40 := ⟨by decide +kernel, rfl⟩
theorem dX8_strokesOf_40 : decode cX8_strokesOf 40 = .ok (.getfield 7, 3) ∧ 40 + 3 = 43 := ⟨by decide +kernel, rfl⟩
theorem dX8_strokesOf_43 : decode cX8_strokesOf 43 = .ok (.iload_n 1, 1) ∧ 43 + 1 = 44 := ⟨by decide +kernel, rfl⟩
theorem dX8_strokesOf_44 : decode cX8_strokesOf 44 = .ok (.iaload, 1) ∧ 44 + 1 = 45 := ⟨by decide +kernel, rfl⟩
theorem dX8_strokesOf_45 : decode cX8_strokesOf 45 = .ok (.tableswitch 76 1 4 #[31, 40, 44, 55], 31) := by decide +kernel
theorem dX8_strokesOf_76 : decode cX8_strokesOf 76 = .ok (.iload_n 3, 1) ∧ 76 + 1 = 77 := ⟨by decide +kernel, rfl⟩
theorem dX8_strokesOf_77 : decode cX8_strokesOf 77 = .ok (.aload_n 0, 1) ∧ 77 + 1 = 78 := ⟨by decide +kernel, rfl⟩
theorem dX8_strokesOf_78 : decode cX8_strokesOf 78 = .ok (.getfield 13, 3) ∧ 78 + 3 = 81 := ⟨by decide +kernel, rfl⟩
theorem dX8_strokesOf_81 : decode cX8_strokesOf 81 = .ok (.iload_n 1, 1) ∧ 81 + 1 = 82 := ⟨by decide +kernel, rfl⟩
theorem dX8_strokesOf_82 : decode cX8_strokesOf 82 = .ok (.iaload, 1) ∧ 82 + 1 = 83 := ⟨by decide +kernel, rfl⟩
theorem dX8_strokesOf_83 : decode cX8_strokesOf 83 = .ok (.iadd, 1) ∧ 83 + 1 = 84 := ⟨by decide +kernel, rfl⟩
theorem dX8_strokesOf_84 : decode cX8_strokesOf 84 = .ok (.ireturn, 1) := by decide +kernel
theorem dX8_strokesOf_85 : decode cX8_strokesOf 85 = .ok (.iload_n 3, 1) ∧ 85 + 1 = 86 := ⟨by decide +kernel, rfl⟩
theorem dX8_strokesOf_86 : decode cX8_strokesOf 86 = .ok (.iconst 2, 1) ∧ 86 + 1 = 87 := ⟨by decide +kernel, rfl⟩
theorem dX8_strokesOf_87 : decode cX8_strokesOf 87 = .ok (.idiv, 1) ∧ 87 + 1 = 88 := ⟨by decide +kernel, rfl⟩
theorem dX8_strokesOf_88 : decode cX8_strokesOf 88 = .ok (.ireturn, 1) := by decide +kernel
theorem dX8_strokesOf_89 : decode cX8_strokesOf 89 = .ok (.iconst 2, 1) ∧ 89 + 1 = 90 := ⟨by decide +kernel, rfl⟩
theorem dX8_strokesOf_90 : decode cX8_strokesOf 90 = .ok (.iload_n 3, 1) ∧ 90 + 1 = 91 := ⟨by decide +kernel, rfl⟩
theorem dX8_strokesOf_91 : decode cX8_strokesOf 91 = .ok (.aload_n 0, 1) ∧ 91 + 1 = 92 := ⟨by decide +kernel, rfl⟩
theorem dX8_strokesOf_92 : decode cX8_strokesOf 92 = .ok (.getfield 13, 3) ∧ 92 + 3 = 95 := ⟨by decide +kernel, rfl⟩
theorem dX8_strokesOf_95 : decode cX8_strokesOf 95 = .ok (.iload_n 1, 1) ∧ 95 + 1 = 96 := ⟨by decide +kernel, rfl⟩
theorem dX8_strokesOf_96 : decode cX8_strokesOf 96 = .ok (.iaload, 1) ∧ 96 + 1 = 97 := ⟨by decide +kernel, rfl⟩
theorem dX8_strokesOf_97 : decode cX8_strokesOf 97 = .ok (.iadd, 1) ∧ 97 + 1 = 98 := ⟨by decide +kernel, rfl⟩
theorem dX8_strokesOf_98 : decode cX8_strokesOf 98 = .ok (.imul, 1) ∧ 98 + 1 = 99 := ⟨by decide +kernel, rfl⟩
theorem dX8_strokesOf_99 : decode cX8_strokesOf 99 = .ok (.ireturn, 1) := by decide +kernel
theorem dX8_strokesOf_100 : decode cX8_strokesOf 100 = .ok (.aload_n 0, 1) ∧ 100 + 1 = 101 := ⟨by decide +kernel, rfl⟩
theorem dX8_strokesOf_101 : decode cX8_strokesOf 101 = .ok (.getfield 19, 3) ∧ 101 + 3 = 104 := ⟨by decide +kernel, rfl⟩
theorem dX8_strokesOf_104 : decode cX8_strokesOf 104 = .ok (.iload_n 2, 1) ∧ 104 + 1 = 105 := ⟨by decide +kernel, rfl⟩
theorem dX8_strokesOf_105 : decode cX8_strokesOf 105 = .ok (.iaload, 1) ∧ 105 + 1 = 106 := ⟨by decide +kernel, rfl⟩
theorem dX8_strokesOf_106 : decode cX8_strokesOf 106 = .ok (.invokestatic 173, 3) := by decide +kernel
theorem dX8_strokesOf_109 : decode cX8_strokesOf 109 = .ok (.iconst 1, 1) ∧ 109 + 1 = 110 := ⟨by decide +kernel, rfl⟩
theorem dX8_strokesOf_110 : decode cX8_strokesOf 110 = .ok (.if_icmp .le 7, 3) ∧ 110 + 3 = 113 ∧ ((110 : Nat) : Int) + (7) = ((117 : Nat) : Int) := ⟨by decide +kernel, rfl, by decide⟩
theorem dX8_strokesOf_113 : decode cX8_strokesOf 113 = .ok (.iconst 0, 1) ∧ 113 + 1 = 114 := ⟨by decide +kernel, rfl⟩
theorem dX8_strokesOf_114 : decode cX8_strokesOf 114 = .ok (.goto 6, 3) ∧ ((114 : Nat) : Int) + (6) = ((120 : Nat) : Int) := ⟨by decide +kernel, by decide⟩
theorem dX8_strokesOf_117 : decode cX8_strokesOf 117 = .ok (.iload_n 3, 1) ∧ 117 + 1 = 118 := ⟨by decide +kernel, rfl⟩
theorem dX8_strokesOf_118 : decode cX8_strokesOf 118 = .ok (.iconst 2, 1) ∧ 118 + 1 = 119 := ⟨by decide +kernel, rfl⟩
theorem dX8_strokesOf_119 : decode cX8_strokesOf 119 = .ok (.idiv, 1) ∧ 119 + 1 = 120 := ⟨by decide +kernel, rfl⟩
theorem dX8_strokesOf_120 : decode cX8_strokesOf 120 = .ok (.ireturn, 1) := by decide +kernel
theorem dX8_strokesOf_121 : decode cX8_strokesOf 121 = .ok (.iload_n 3, 1) ∧ 121 + 1 = 122 := ⟨by decide +kernel, rfl⟩
theorem dX8_strokesOf_122 : decode cX8_strokesOf 122 = .ok (.ireturn, 1) := by decide +kernel
def B_X8_strokesOf_30 (fu : Nat) (o : Nat) (S : Hp) (s0 : Int32) : Option (Int32 × Hp) :=
  some (s0, S)
set_option maxRecDepth 100000 in
set_option maxHeartbeats 4000000 in
theorem w_X8_strokesOf_30 {E : Cx} {l : Launch} {res : Int32 × Hp} {ad : Nat → Nat} {fu : Nat} {o : Nat} {S : Hp} {s0 : Int32} (K : Kx E cX8_strokesOf RX8 (rmd 3 0 0)) (X : Bx E l yX8_strokesOf 4 (some .int) 0 0 ad (QI res)) (h : B_X8_strokesOf_30 fu o S s0 = some res) : J E 0 0 30 [] [vI s0] S ad := by
  exact j_iret K X dX8_strokesOf_30 h
def B_X8_strokesOf_120 (fu : Nat) (o : Nat) (S : Hp) (s0 : Int32) : Option (Int32 × Hp) :=
  some (s0, S)
set_option maxRecDepth 100000 in
set_option maxHeartbeats 4000000 in
theorem w_X8_strokesOf_120 {E : Cx} {l : Launch} {res : Int32 × Hp} {ad : Nat → Nat} {fu : Nat} {o : Nat} {S : Hp} {s0 : Int32} (K : Kx E cX8_strokesOf RX8 (rmd 3 0 0)) (X : Bx E l yX8_strokesOf 4 (some .int) 0 0 ad (QI res)) (h : B_X8_strokesOf_120 fu o S s0 = some res) : J E 0 0 120 [] [vI s0] S ad := by
  exact j_iret K X dX8_strokesOf_120 h
def F_X8_strokesOf (fu : Nat) (S : Hp) (o : Nat) (x1 : Int32) (x2 : Int32) : Option (Int32 × Hp) :=
  (gR S (some o) 6 1).bind fun v1 =>
  (aG S v1 x1).bind fun v5 =>
  if v5 = (5 : Int32) then
    (gR S (some o) 6 5).bind fun v11 =>
    (aG S v11 x2).bind fun v15 =>
    (gR S (some o) 6 2).bind fun v17 =>
    (aG S v17 x1).bind fun v21 =>
    if v15 ≤ v21 then
      B_X8_strokesOf_30 fu o S (0 : Int32)
    else
      B_X8_strokesOf_30 fu o S (1 : Int32)
  else
    (ob S 6 (some o)).bind fun _ =>
    b2 (F_X8_asksOf fu S o (0 : Int32) x1 x2) fun v35 S35 =>
    (gR S35 (some o) 6 1).bind fun v40 =>
    (aG S35 v40 x1).bind fun v44 =>
    if v44 = 1 then
      (gR S35 (some o) 6 2).bind fun v78 =>
      (aG S35 v78 x1).bind fun v82 =>
      some ((v35 + v82), S35)
    else
    if v44 = 2 then
      some ((v35 / (2 : Int32)), S35)
    else
    if v44 = 3 then
      (gR S35 (some o) 6 2).bind fun v92 =>
      (aG S35 v92 x1).bind fun v96 =>
      some (((2 : Int32) * (v35 + v96)), S35)
    else
    if v44 = 4 then
      (gR S35 (some o) 6 4).bind fun v101 =>
      (aG S35 v101 x2).bind fun v105 =>
      b2 (F_X8_bitsOf fu S35 v105) fun v106 S106 =>
      if v106 ≤ (1 : Int32) then
        B_X8_strokesOf_120 fu o S106 (v35 / (2 : Int32))
      else
        B_X8_strokesOf_120 fu o S106 (0 : Int32)
    else
    some (v35, S35)
set_option maxRecDepth 100000 in
set_option maxHeartbeats 4000000 in
theorem w_X8_strokesOf {E : Cx} {l : Launch} {res : Int32 × Hp} {ad : Nat → Nat} {fu : Nat} {S : Hp} {o : Nat} {x1 : Int32} {x2 : Int32} (K : Kx E cX8_strokesOf RX8 (rmd 3 0 0)) (X : Bx E l yX8_strokesOf 4 (some .int) 0 0 ad (QI res)) (h : F_X8_strokesOf fu S o x1 x2 = some res) : J E 0 0 0 [(0, vR (some o)), (1, vI x1), (2, vI x2)] [] S ad := by
  refine j_aload_n K dX8_strokesOf_0 rfl 0 rfl ?_
  obtain ⟨v1, e1, h⟩ := bd h
  refine fgX8_7 K dX8_strokesOf_1 e1 ?_
  refine j_iload_n K dX8_strokesOf_4 rfl 1 rfl ?_
  obtain ⟨v5, e5, h⟩ := bd h
  refine j_aG K dX8_strokesOf_5 e5 ?_
  refine j_iconst (v := (5 : Int32)) K dX8_strokesOf_6 (by decide) ?_
  refine j_icmp_ne K dX8_strokesOf_7 (fun c7 => ?_) (fun c7 => ?_)
  · replace h := ie c7 h
    refine j_aload_n K dX8_strokesOf_31 rfl 0 rfl ?_
    refine j_iconst (v := (0 : Int32)) K dX8_strokesOf_32 (by decide) ?_
    refine j_iload_n K dX8_strokesOf_33 rfl 1 rfl ?_
    refine j_iload_n K dX8_strokesOf_34 rfl 2 rfl ?_
    obtain ⟨w35, ew35, h⟩ := bd h
    have ho35 := obS ew35
    obtain ⟨v35, S35, e35, h⟩ := bd2 h
    refine j_cI (st := []) K (r_V (vs := [vI (0 : Int32), vI x1, vI x2]) (n := 3) (o := o) K (c_X8_asksOf e35) ho35 (by decide) rfl dX8_strokesOf_35 z1007 z1009 zs36 z13 z1010 ⟨zd_X8_asksOf, rfl, rfl, rfl, ⟨Nat.le_of_ble_eq_true rfl, Nat.le_of_ble_eq_true rfl⟩, Nat.le_of_ble_eq_true rfl, Nat.le_of_ble_eq_true rfl, Nat.le_of_ble_eq_true rfl⟩) rfl ?_
    refine j_istore_n (lv' := [(3, vI v35), (0, vR (some o)), (1, vI x1), (2, vI x2)]) K dX8_strokesOf_38 rfl X.2.2.1 (by decide) rfl ?_
    refine j_aload_n K dX8_strokesOf_39 rfl 1 rfl ?_
    obtain ⟨v40, e40, h⟩ := bd h
    refine fgX8_7 K dX8_strokesOf_40 e40 ?_
    refine j_iload_n K dX8_strokesOf_43 rfl 2 rfl ?_
    obtain ⟨v44, e44, h⟩ := bd h
    refine j_aG K dX8_strokesOf_44 e44 ?_
    by_cases c45_1 : v44 = 1
    · replace h := it c45_1 h
      have t45 : v44.toInt = 1 := by rw [c45_1]; rfl
      refine j_tin (tgt := 76) K dX8_strokesOf_45 (by rw [t45]; decide) (by rw [t45]; decide) (by rw [t45]; rfl) (by decide) ?_
      refine j_iload_n K dX8_strokesOf_76 rfl 0 rfl ?_
      refine j_aload_n K dX8_strokesOf_77 rfl 1 rfl ?_
      obtain ⟨v78, e78, h⟩ := bd h
      refine fgX8_13 K dX8_strokesOf_78 e78 ?_
      refine j_iload_n K dX8_strokesOf_81 rfl 2 rfl ?_
      obtain ⟨v82, e82, h⟩ := bd h
      refine j_aG K dX8_strokesOf_82 e82 ?_
      refine j_iadd K dX8_strokesOf_83 ?_
      exact j_iret K X dX8_strokesOf_84 h
    replace h := ie c45_1 h
    by_cases c45_2 : v44 = 2
    · replace h := it c45_2 h
      have t45 : v44.toInt = 2 := by rw [c45_2]; rfl
      refine j_tin (tgt := 85) K dX8_strokesOf_45 (by rw [t45]; decide) (by rw [t45]; decide) (by rw [t45]; rfl) (by decide) ?_
      refine j_iload_n K dX8_strokesOf_85 rfl 0 rfl ?_
      refine j_iconst (v := (2 : Int32)) K dX8_strokesOf_86 (by decide) ?_
      refine j_idiv K dX8_strokesOf_87 (by decide) ?_
      exact j_iret K X dX8_strokesOf_88 h
    replace h := ie c45_2 h
    by_cases c45_3 : v44 = 3
    · replace h := it c45_3 h
      have t45 : v44.toInt = 3 := by rw [c45_3]; rfl
      refine j_tin (tgt := 89) K dX8_strokesOf_45 (by rw [t45]; decide) (by rw [t45]; decide) (by rw [t45]; rfl) (by decide) ?_
      refine j_iconst (v := (2 : Int32)) K dX8_strokesOf_89 (by decide) ?_
      refine j_iload_n K dX8_strokesOf_90 rfl 0 rfl ?_
      refine j_aload_n K dX8_strokesOf_91 rfl 1 rfl ?_
      obtain ⟨v92, e92, h⟩ := bd h
      refine fgX8_13 K dX8_strokesOf_92 e92 ?_
      refine j_iload_n K dX8_strokesOf_95 rfl 2 rfl ?_
      obtain ⟨v96, e96, h⟩ := bd h
      refine j_aG K dX8_strokesOf_96 e96 ?_
      refine j_iadd K dX8_strokesOf_97 ?_
      refine j_imul K dX8_strokesOf_98 ?_
      exact j_iret K X dX8_strokesOf_99 h
    replace h := ie c45_3 h
    by_cases c45_4 : v44 = 4
    · replace h := it c45_4 h
      have t45 : v44.toInt = 4 := by rw [c45_4]; rfl
      refine j_tin (tgt := 100) K dX8_strokesOf_45 (by rw [t45]; decide) (by rw [t45]; decide) (by rw [t45]; rfl) (by decide) ?_
      refine j_aload_n K dX8_strokesOf_100 rfl 1 rfl ?_
      obtain ⟨v101, e101, h⟩ := bd h
      refine fgX8_19 K dX8_strokesOf_101 e101 ?_
      refine j_iload_n K dX8_strokesOf_104 rfl 3 rfl ?_
      obtain ⟨v105, e105, h⟩ := bd h
      refine j_aG K dX8_strokesOf_105 e105 ?_
      obtain ⟨v106, S106, e106, h⟩ := bd2 h
      refine j_cI (st := []) K (r_S (vs := [vI v105]) (n := 1) K (c_X8_bitsOf e106) dX8_strokesOf_106 z1011 z1012 z13 z1013 ⟨zd_X8_bitsOf, rfl, rfl, rfl, ⟨Nat.le_of_ble_eq_true rfl, Nat.le_of_ble_eq_true rfl⟩, Nat.le_of_ble_eq_true rfl, Nat.le_of_ble_eq_true rfl, Nat.le_of_ble_eq_true rfl⟩) rfl ?_
      refine j_iconst (v := (1 : Int32)) K dX8_strokesOf_109 (by decide) ?_
      refine j_icmp_le K dX8_strokesOf_110 (fun c110 => ?_) (fun c110 => ?_)
      · replace h := it c110 h
        refine j_iload_n K dX8_strokesOf_117 rfl 0 rfl ?_
        refine j_iconst (v := (2 : Int32)) K dX8_strokesOf_118 (by decide) ?_
        refine j_idiv K dX8_strokesOf_119 (by decide) ?_
        exact j_sub [] rfl (w_X8_strokesOf_120 K X h)
      · replace h := ie c110 h
        refine j_iconst (v := (0 : Int32)) K dX8_strokesOf_113 (by decide) ?_
        refine j_goto K dX8_strokesOf_114 ?_
        exact j_sub [] rfl (w_X8_strokesOf_120 K X h)
    replace h := ie c45_4 h
    have t45_1 : v44.toInt ≠ 1 := swn rfl c45_1
    have t45_2 : v44.toInt ≠ 2 := swn rfl c45_2
    have t45_3 : v44.toInt ≠ 3 := swn rfl c45_3
    have t45_4 : v44.toInt ≠ 4 := swn rfl c45_4
    refine j_tout (tgt := 121) K dX8_strokesOf_45 (by omega) (by decide) ?_
    refine j_iload_n K dX8_strokesOf_121 rfl 0 rfl ?_
    exact j_iret K X dX8_strokesOf_122 h
  · replace h := it c7 h
    refine j_aload_n K dX8_strokesOf_10 rfl 0 rfl ?_
    obtain ⟨v11, e11, h⟩ := bd h
    refine fgX8_22 K dX8_strokesOf_11 e11 ?_
    refine j_iload_n K dX8_strokesOf_14 rfl 2 rfl ?_
    obtain ⟨v15, e15, h⟩ := bd h
    refine j_aG K dX8_strokesOf_15 e15 ?_
    refine j_aload_n K dX8_strokesOf_16 rfl 0 rfl ?_
    obtain ⟨v17, e17, h⟩ := bd h
    refine fgX8_13 K dX8_strokesOf_17 e17 ?_
    refine j_iload_n K dX8_strokesOf_20 rfl 1 rfl ?_
    obtain ⟨v21, e21, h⟩ := bd h
    refine j_aG K dX8_strokesOf_21 e21 ?_
    refine j_icmp_le K dX8_strokesOf_22 (fun c22 => ?_) (fun c22 => ?_)
    · replace h := it c22 h
      refine j_iconst (v := (0 : Int32)) K dX8_strokesOf_29 (by decide) ?_
      exact j_sub [] rfl (w_X8_strokesOf_30 K X h)
    · replace h := ie c22 h
      refine j_iconst (v := (1 : Int32)) K dX8_strokesOf_25 (by decide) ?_
      refine j_goto K dX8_strokesOf_26 ?_
      exact j_sub [] rfl (w_X8_strokesOf_30 K X h)
theorem c_X8_strokesOf {l : Launch} {fu : Nat} {S : Hp} {o : Nat} {x1 : Int32} {x2 : Int32} {res : Int32 × Hp} (h : F_X8_strokesOf fu S o x1 x2 = some res) : Ct l yX8_strokesOf cX8_strokesOf 4 (some .int) (rmd 3 0 0) 0 0 [vR (some o), vI x1, vI x2] S (QI res) :=
  z_entry (by decide +kernel) (Nat.le_of_ble_eq_true rfl) (fun E ad K X => w_X8_strokesOf K X h)

theorem dX8_doubtsOf_0 : decode cX8_doubtsOf 0 = .ok (.aload_n 0, 1) ∧ 0 + 1 = 1 := ⟨by decide +kernel, rfl⟩
theorem dX8_doubtsOf_1 : decode cX8_doubtsOf 1 = .ok (.iconst 1, 1) ∧ 1 + 1 = 2 := ⟨by decide +kernel, rfl⟩
theorem dX8_doubtsOf_2 : decode cX8_doubtsOf 2 = .ok (.iload_n 1, 1) ∧ 2 + 1 = 3 := ⟨by decide +kernel, rfl⟩
theorem dX8_doubtsOf_3 : decode cX8_doubtsOf 3 = .ok (.iload_n 2, 1) ∧ 3 + 1 = 4 := ⟨by decide +kernel, rfl⟩
theorem dX8_doubtsOf_4 : decode cX8_doubtsOf 4 = .ok (.invokevirtual 185, 3) := by decide +kernel
theorem dX8_doubtsOf_7 : decode cX8_doubtsOf 7 = .ok (.istore 4, 2) ∧ 7 + 2 = 9 := ⟨by decide +kernel, rfl⟩
theorem dX8_doubtsOf_9 : decode cX8_doubtsOf 9 = .ok (.aload_n 0, 1) ∧ 9 + 1 = 10 := ⟨by decide +kernel, rfl⟩
theorem dX8_doubtsOf_10 : decode cX8_doubtsOf 10 = .ok (.getfield 7, 3) ∧ 10 + 3 = 13 := ⟨by decide +kernel, rfl⟩
theorem dX8_doubtsOf_13 : decode cX8_doubtsOf 13 = .ok (.iload_n 1, 1) ∧ 13 + 1 = 14 := ⟨by decide +kernel, rfl⟩
theorem dX8_doubtsOf_14 : decode cX8_doubtsOf 14 = .ok (.iaload, 1) ∧ 14 + 1 = 15 := ⟨by decide +kernel, rfl⟩
theorem dX8_doubtsOf_15 : decode cX8_doubtsOf 15 = .ok (.tableswitch 51 2 5 #[29, 41, 29, 46], 29) := by decide +kernel
theorem dX8_doubtsOf_44 : decode cX8_doubtsOf 44 = .ok (.iload_n 3, 1) ∧ 44 + 1 = 45 := ⟨by decide +kernel, rfl⟩
theorem dX8_doubtsOf_45 : decode cX8_doubtsOf 45 = .ok (.iconst 3, 1) ∧ 45 + 1 = 46 := ⟨by decide +kernel, rfl⟩
theorem dX8_doubtsOf_46 : decode cX8_doubtsOf 46 = .ok (.if_icmp .ge 7, 3) ∧ 46 + 3 = 49 ∧ ((46 : Nat) : Int) + (7) = ((53 : Nat) : Int) := ⟨by decide +kernel, rfl, by decide⟩
theorem dX8_doubtsOf_49 : decode cX8_doubtsOf 49 = .ok (.iconst 0, 1) ∧ 49 + 1 = 50 := ⟨by decide +kernel, rfl⟩
theorem dX8_doubtsOf_50 : decode cX8_doubtsOf 50 = .ok (.goto 5, 3) ∧ ((50 : Nat) : Int) + (5) = ((55 : Nat) : Int) := ⟨by decide +kernel, by decide⟩
theorem dX8_doubtsOf_53 : decode cX8_doubtsOf 53 = .ok (.iload 4, 2) ∧ 53 + 2 = 55 := ⟨by decide +kernel, rfl⟩
theorem dX8_doubtsOf_55 : decode cX8_doubtsOf 55 = .ok (.ireturn, 1) := by decide +kernel
theorem dX8_doubtsOf_56 : decode cX8_doubtsOf 56 = .ok (.iload 4, 2) ∧ 56 + 2 = 58 := ⟨by decide +kernel, rfl⟩
theorem dX8_doubtsOf_58 : decode cX8_doubtsOf 58 = .ok (.iconst 2, 1) ∧ 58 + 1 = 59 := ⟨by decide +kernel, rfl⟩
theorem dX8_doubtsOf_59 : decode cX8_doubtsOf 59 = .ok (.idiv, 1) ∧ 59 + 1 = 60 := ⟨by decide +kernel, rfl⟩
theorem dX8_doubtsOf_60 : decode cX8_doubtsOf 60 = .ok (.ireturn, 1) := by decide +kernel
theorem dX8_doubtsOf_61 : decode cX8_doubtsOf 61 = .ok (.iload 4, 2) ∧ 61 + 2 = 63 := ⟨by decide +kernel, rfl⟩
theorem dX8_doubtsOf_63 : decode cX8_doubtsOf 63 = .ok (.iload_n 3, 1) ∧ 63 + 1 = 64 := ⟨by decide +kernel, rfl⟩
theorem dX8_doubtsOf_64 : decode cX8_doubtsOf 64 = .ok (.iadd, 1) ∧ 64 + 1 = 65 := ⟨by decide +kernel, rfl⟩
theorem dX8_doubtsOf_65 : decode cX8_doubtsOf 65 = .ok (.ireturn, 1) := by decide +kernel
theorem dX8_doubtsOf_66 : decode cX8_doubtsOf 66 = .ok (.iload 4, 2) ∧ 66 + 2 = 68 := ⟨by decide +kernel, rfl⟩
theorem dX8_doubtsOf_68 : decode cX8_doubtsOf 68 = .ok (.ireturn, 1) := by decide +kernel
def B_X8_doubtsOf_55 (fu : Nat) (o : Nat) (S : Hp) (s0 : Int32) : Option (Int32 × Hp) :=
  some (s0, S)
set_option maxRecDepth 100000 in
set_option maxHeartbeats 4000000 in
theorem w_X8_doubtsOf_55 {E : Cx} {l : Launch} {res : Int32 × Hp} {ad : Nat → Nat} {fu : Nat} {o : Nat} {S : Hp} {s0 : Int32} (K : Kx E cX8_doubtsOf RX8 (rmd 3 0 0)) (X : Bx E l yX8_doubtsOf 5 (some .int) 0 0 ad (QI res)) (h : B_X8_doubtsOf_55 fu o S s0 = some res) : J E 0 0 55 [] [vI s0] S ad := by
  exact j_iret K X dX8_doubtsOf_55 h
def F_X8_doubtsOf (fu : Nat) (S : Hp) (o : Nat) (x1 : Int32) (x2 : Int32) (x3 : Int32) : Option (Int32 × Hp) :=
  (ob S 6 (some o)).bind fun _ =>
  b2 (F_X8_asksOf fu S o (1 : Int32) x1 x2) fun v4 S4 =>
  (gR S4 (some o) 6 1).bind fun v10 =>
  (aG S4 v10 x1).bind fun v14 =>
  if v14 = 2 then
    if (3 : Int32) ≤ x3 then
      B_X8_doubtsOf_55 fu o S4 v4
    else
      B_X8_doubtsOf_55 fu o S4 (0 : Int32)
  else
  if v14 = 3 then
    some ((v4 / (2 : Int32)), S4)
  else
  if v14 = 4 then
    if (3 : Int32) ≤ x3 then
      B_X8_doubtsOf_55 fu o S4 v4
    else
      B_X8_doubtsOf_55 fu o S4 (0 : Int32)
  else
  if v14 = 5 then
    some ((v4 + x3), S4)
  else
  some (v4, S4)
set_option maxRecDepth 100000 in
set_option maxHeartbeats 4000000 in
theorem w_X8_doubtsOf {E : Cx} {l : Launch} {res : Int32 × Hp} {ad : Nat → Nat} {fu : Nat} {S : Hp} {o : Nat} {x1 : Int32} {x2 : Int32} {x3 : Int32} (K : Kx E cX8_doubtsOf RX8 (rmd 3 0 0)) (X : Bx E l yX8_doubtsOf 5 (some .int) 0 0 ad (QI res)) (h : F_X8_doubtsOf fu S o x1 x2 x3 = some res) : J E 0 0 0 [(0, vR (some o)), (1, vI x1), (2, vI x2), (3, vI x3)] [] S ad := by
  refine j_aload_n K dX8_doubtsOf_0 rfl 0 rfl ?_
  refine j_iconst (v := (1 : Int32)) K dX8_doubtsOf_1 (by decide) ?_
  refine j_iload_n K dX8_doubtsOf_2 rfl 1 rfl ?_
  refine j_iload_n K dX8_doubtsOf_3 rfl 2 rfl ?_
  obtain ⟨w4, ew4, h⟩ := bd h
  have ho4 := obS ew4
  obtain ⟨v4, S4, e4, h⟩ := bd2 h
  refine j_cI (st := []) K (r_V (vs := [vI (1 : Int32), vI x1, vI x2]) (n := 3) (o := o) K (c_X8_asksOf e4) ho4 (by decide) rfl dX8_doubtsOf_4 z1007 z1009 zs36 z13 z1010 ⟨zd_X8_asksOf, rfl, rfl, rfl, ⟨Nat.le_of_ble_eq_true rfl, Nat.le_of_ble_eq_true rfl⟩, Nat.le_of_ble_eq_true rfl, Nat.le_of_ble_eq_true rfl, Nat.le_of_ble_eq_true rfl⟩) rfl ?_
  refine j_istore (lv' := [(4, vI v4), (0, vR (some o)), (1, vI x1), (2, vI x2), (3, vI x3)]) K dX8_doubtsOf_7 X.2.2.1 (by decide) rfl ?_
  refine j_aload_n K dX8_doubtsOf_9 rfl 1 rfl ?_
  obtain ⟨v10, e10, h⟩ := bd h
  refine fgX8_7 K dX8_doubtsOf_10 e10 ?_
  refine j_iload_n K dX8_doubtsOf_13 rfl 2 rfl ?_
  obtain ⟨v14, e14, h⟩ := bd h
  refine j_aG K dX8_doubtsOf_14 e14 ?_
  by_cases c15_2 : v14 = 2
  · replace h := it c15_2 h
    have t15 : v14.toInt = 2 := by rw [c15_2]; rfl
    refine j_tin (tgt := 44) K dX8_doubtsOf_15 (by rw [t15]; decide) (by rw [t15]; decide) (by rw [t15]; rfl) (by decide) ?_
    refine j_iload_n K dX8_doubtsOf_44 rfl 4 rfl ?_
    refine j_iconst (v := (3 : Int32)) K dX8_doubtsOf_45 (by decide) ?_
    refine j_icmp_ge K dX8_doubtsOf_46 (fun c46 => ?_) (fun c46 => ?_)
    · replace h := it c46 h
      refine j_iload K dX8_doubtsOf_53 0 rfl ?_
      exact j_sub [] rfl (w_X8_doubtsOf_55 K X h)
    · replace h := ie c46 h
      refine j_iconst (v := (0 : Int32)) K dX8_doubtsOf_49 (by decide) ?_
      refine j_goto K dX8_doubtsOf_50 ?_
      exact j_sub [] rfl (w_X8_doubtsOf_55 K X h)
  replace h := ie c15_2 h
  by_cases c15_3 : v14 = 3
  · replace h := it c15_3 h
    have t15 : v14.toInt = 3 := by rw [c15_3]; rfl
    refine j_tin (tgt := 56) K dX8_doubtsOf_15 (by rw [t15]; decide) (by rw [t15]; decide) (by rw [t15]; rfl) (by decide) ?_
    refine j_iload K dX8_doubtsOf_56 0 rfl ?_
    refine j_iconst (v := (2 : Int32)) K dX8_doubtsOf_58 (by decide) ?_
    refine j_idiv K dX8_doubtsOf_59 (by decide) ?_
    exact j_iret K X dX8_doubtsOf_60 h
  replace h := ie c15_3 h
  by_cases c15_4 : v14 = 4
  · replace h := it c15_4 h
    have t15 : v14.toInt = 4 := by rw [c15_4]; rfl
    refine j_tin (tgt := 44) K dX8_doubtsOf_15 (by rw [t15]; decide) (by rw [t15]; decide) (by rw [t15]; rfl) (by decide) ?_
    refine j_iload_n K dX8_doubtsOf_44 rfl 4 rfl ?_
    refine j_iconst (v := (3 : Int32)) K dX8_doubtsOf_45 (by decide) ?_
    refine j_icmp_ge K dX8_doubtsOf_46 (fun c46 => ?_) (fun c46 => ?_)
    · replace h := it c46 h
      refine j_iload K dX8_doubtsOf_53 0 rfl ?_
      exact j_sub [] rfl (w_X8_doubtsOf_55 K X h)
    · replace h := ie c46 h
      refine j_iconst (v := (0 : Int32)) K dX8_doubtsOf_49 (by decide) ?_
      refine j_goto K dX8_doubtsOf_50 ?_
      exact j_sub [] rfl (w_X8_doubtsOf_55 K X h)
  replace h := ie c15_4 h
  by_cases c15_5 : v14 = 5
  · replace h := it c15_5 h
    have t15 : v14.toInt = 5 := by rw [c15_5]; rfl
    refine j_tin (tgt := 61) K dX8_doubtsOf_15 (by rw [t15]; decide) (by rw [t15]; decide) (by rw [t15]; rfl) (by decide) ?_
    refine j_iload K dX8_doubtsOf_61 0 rfl ?_
    refine j_iload_n K dX8_doubtsOf_63 rfl 4 rfl ?_
    refine j_iadd K dX8_doubtsOf_64 ?_
    exact j_iret K X dX8_doubtsOf_65 h
  replace h := ie c15_5 h
  have t15_2 : v14.toInt ≠ 2 := swn rfl c15_2
  have t15_3 : v14.toInt ≠ 3 := swn rfl c15_3
  have t15_4 : v14.toInt ≠ 4 := swn rfl c15_4
  have t15_5 : v14.toInt ≠ 5 := swn rfl c15_5
  refine j_tout (tgt := 66) K dX8_doubtsOf_15 (by omega) (by decide) ?_
  refine j_iload K dX8_doubtsOf_66 0 rfl ?_
  exact j_iret K X dX8_doubtsOf_68 h
theorem c_X8_doubtsOf {l : Launch} {fu : Nat} {S : Hp} {o : Nat} {x1 : Int32} {x2 : Int32} {x3 : Int32} {res : Int32 × Hp} (h : F_X8_doubtsOf fu S o x1 x2 x3 = some res) : Ct l yX8_doubtsOf cX8_doubtsOf 5 (some .int) (rmd 3 0 0) 0 0 [vR (some o), vI x1, vI x2, vI x3] S (QI res) :=
  z_entry (by decide +kernel) (Nat.le_of_ble_eq_true rfl) (fun E ad K X => w_X8_doubtsOf K X h)
