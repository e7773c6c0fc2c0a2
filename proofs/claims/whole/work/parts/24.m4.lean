theorem dX8_away_0 : decode cX8_away 0 = .ok (.iload_n 1, 1) ∧ 0 + 1 = 1 := ⟨by decide +kernel, rfl⟩
theorem dX8_away_1 : decode cX8_away 1 = .ok (.iconst 0, 1) ∧ 1 + 1 = 2 := ⟨by decide +kernel, rfl⟩
theorem dX8_away_2 : decode cX8_away 2 = .ok (.iconst 1, 1) ∧ 2 + 1 = 3 := ⟨by decide +kernel, rfl⟩
theorem dX8_away_3 : decode cX8_away 3 = .ok (.invokestatic 87, 3) := by decide +kernel
theorem dX8_away_6 : decode cX8_away 6 = .ok (.ifCond .ne 6, 3) ∧ 6 + 3 = 9 ∧ ((6 : Nat) : Int) + (6) = ((12 : Nat) : Int) := ⟨by decide +kernel, rfl, by decide⟩
theorem dX8_away_9 : decode cX8_away 9 = .ok (.bipush (-2), 2) ∧ 9 + 2 = 11 := ⟨by decide +kernel, rfl⟩
theorem dX8_away_11 : decode cX8_away 11 = .ok (.ireturn, 1) := by decide +kernel
theorem dX8_away_12 : decode cX8_away 12 = .ok (.iconst (-1), 1) ∧ 12 + 1 = 13 := ⟨by decide +kernel, rfl⟩
theorem dX8_away_13 : decode cX8_away 13 = .ok (.istore_n 2, 1) ∧ 13 + 1 = 14 := ⟨by decide +kernel, rfl⟩
theorem dX8_away_14 : decode cX8_away 14 = .ok (.aload_n 0, 1) ∧ 14 + 1 = 15 := ⟨by decide +kernel, rfl⟩
theorem dX8_away_15 : decode cX8_away 15 = .ok (.invokevirtual 238, 3) := by decide +kernel
theorem dX8_away_18 : decode cX8_away 18 = .ok (.istore_n 3, 1) ∧ 18 + 1 = 19 := ⟨by decide +kernel, rfl⟩
theorem dX8_away_19 : decode cX8_away 19 = .ok (.iconst 0, 1) ∧ 19 + 1 = 20 := ⟨by decide +kernel, rfl⟩
theorem dX8_away_20 : decode cX8_away 20 = .ok (.istore 4, 2) ∧ 20 + 2 = 22 := ⟨by decide +kernel, rfl⟩
theorem dX8_away_22 : decode cX8_away 22 = .ok (.iload 4, 2) ∧ 22 + 2 = 24 := ⟨by decide +kernel, rfl⟩
theorem dX8_away_24 : decode cX8_away 24 = .ok (.aload_n 0, 1) ∧ 24 + 1 = 25 := ⟨by decide +kernel, rfl⟩
theorem dX8_away_25 : decode cX8_away 25 = .ok (.getfield 84, 3) ∧ 25 + 3 = 28 := ⟨by decide +kernel, rfl⟩
theorem dX8_away_28 : decode cX8_away 28 = .ok (.if_icmp .ge 83, 3) ∧ 28 + 3 = 31 ∧ ((28 : Nat) : Int) + (83) = ((111 : Nat) : Int) := ⟨by decide +kernel, rfl, by decide⟩
theorem dX8_away_31 : decode cX8_away 31 = .ok (.aload_n 0, 1) ∧ 31 + 1 = 32 := ⟨by decide +kernel, rfl⟩
theorem dX8_away_32 : decode cX8_away 32 = .ok (.invokevirtual 241, 3) := by decide +kernel
theorem dX8_away_35 : decode cX8_away 35 = .ok (.iconst 0, 1) ∧ 35 + 1 = 36 := ⟨by decide +kernel, rfl⟩
theorem dX8_away_36 : decode cX8_away 36 = .ok (.istore 5, 2) ∧ 36 + 2 = 38 := ⟨by decide +kernel, rfl⟩
theorem dX8_away_38 : decode cX8_away 38 = .ok (.iload 5, 2) ∧ 38 + 2 = 40 := ⟨by decide +kernel, rfl⟩
theorem dX8_away_40 : decode cX8_away 40 = .ok (.aload_n 0, 1) ∧ 40 + 1 = 41 := ⟨by decide +kernel, rfl⟩
theorem dX8_away_41 : decode cX8_away 41 = .ok (.getfield 91, 3) ∧ 41 + 3 = 44 := ⟨by decide +kernel, rfl⟩
theorem dX8_away_44 : decode cX8_away 44 = .ok (.if_icmp .ge 25, 3) ∧ 44 + 3 = 47 ∧ ((44 : Nat) : Int) + (25) = ((69 : Nat) : Int) := ⟨by decide +kernel, rfl, by decide⟩
theorem dX8_away_47 : decode cX8_away 47 = .ok (.aload_n 0, 1) ∧ 47 + 1 = 48 := ⟨by decide +kernel, rfl⟩
theorem dX8_away_48 : decode cX8_away 48 = .ok (.getfield 25, 3) ∧ 48 + 3 = 51 := ⟨by decide +kernel, rfl⟩
theorem dX8_away_51 : decode cX8_away 51 = .ok (.iload 5, 2) ∧ 51 + 2 = 53 := ⟨by decide +kernel, rfl⟩
theorem dX8_away_53 : decode cX8_away 53 = .ok (.dup2, 1) ∧ 53 + 1 = 54 := ⟨by decide +kernel, rfl⟩
theorem dX8_away_54 : decode cX8_away 54 = .ok (.iaload, 1) ∧ 54 + 1 = 55 := ⟨by decide +kernel, rfl⟩
theorem dX8_away_55 : decode cX8_away 55 = .ok (.iconst 1, 1) ∧ 55 + 1 = 56 := ⟨by decide +kernel, rfl⟩
theorem dX8_away_56 : decode cX8_away 56 = .ok (.iload 4, 2) ∧ 56 + 2 = 58 := ⟨by decide +kernel, rfl⟩
theorem dX8_away_58 : decode cX8_away 58 = .ok (.ishl, 1) ∧ 58 + 1 = 59 := ⟨by decide +kernel, rfl⟩
theorem dX8_away_59 : decode cX8_away 59 = .ok (.iconst (-1), 1) ∧ 59 + 1 = 60 := ⟨by decide +kernel, rfl⟩
theorem dX8_away_60 : decode cX8_away 60 = .ok (.ixor, 1) ∧ 60 + 1 = 61 := ⟨by decide +kernel, rfl⟩
theorem dX8_away_61 : decode cX8_away 61 = .ok (.iand, 1) ∧ 61 + 1 = 62 := ⟨by decide +kernel, rfl⟩
theorem dX8_away_62 : decode cX8_away 62 = .ok (.iastore, 1) ∧ 62 + 1 = 63 := ⟨by decide +kernel, rfl⟩
theorem dX8_away_63 : decode cX8_away 63 = .ok (.iinc 5 1, 3) ∧ 63 + 3 = 66 := ⟨by decide +kernel, rfl⟩
theorem dX8_away_66 : decode cX8_away 66 = .ok (.goto (-28), 3) ∧ ((66 : Nat) : Int) + (-28) = ((38 : Nat) : Int) := ⟨by decide +kernel, by decide⟩
theorem dX8_away_69 : decode cX8_away 69 = .ok (.aload_n 0, 1) ∧ 69 + 1 = 70 := ⟨by decide +kernel, rfl⟩
theorem dX8_away_70 : decode cX8_away 70 = .ok (.invokevirtual 238, 3) := by decide +kernel
theorem dX8_away_73 : decode cX8_away 73 = .ok (.istore 5, 2) ∧ 73 + 2 = 75 := ⟨by decide +kernel, rfl⟩
theorem dX8_away_75 : decode cX8_away 75 = .ok (.aload_n 0, 1) ∧ 75 + 1 = 76 := ⟨by decide +kernel, rfl⟩
theorem dX8_away_76 : decode cX8_away 76 = .ok (.invokevirtual 244, 3) := by decide +kernel
theorem dX8_away_79 : decode cX8_away 79 = .ok (.iload 5, 2) ∧ 79 + 2 = 81 := ⟨by decide +kernel, rfl⟩
theorem dX8_away_81 : decode cX8_away 81 = .ok (.iload_n 3, 1) ∧ 81 + 1 = 82 := ⟨by decide +kernel, rfl⟩
theorem dX8_away_82 : decode cX8_away 82 = .ok (.if_icmp .le 8, 3) ∧ 82 + 3 = 85 ∧ ((82 : Nat) : Int) + (8) = ((90 : Nat) : Int) := ⟨by decide +kernel, rfl, by decide⟩
theorem dX8_away_85 : decode cX8_away 85 = .ok (.iload 4, 2) ∧ 85 + 2 = 87 := ⟨by decide +kernel, rfl⟩
theorem dX8_away_87 : decode cX8_away 87 = .ok (.goto 4, 3) ∧ ((87 : Nat) : Int) + (4) = ((91 : Nat) : Int) := ⟨by decide +kernel, by decide⟩
theorem dX8_away_90 : decode cX8_away 90 = .ok (.iload_n 2, 1) ∧ 90 + 1 = 91 := ⟨by decide +kernel, rfl⟩
theorem dX8_away_91 : decode cX8_away 91 = .ok (.istore_n 2, 1) ∧ 91 + 1 = 92 := ⟨by decide +kernel, rfl⟩
theorem dX8_away_92 : decode cX8_away 92 = .ok (.iload 5, 2) ∧ 92 + 2 = 94 := ⟨by decide +kernel, rfl⟩
theorem dX8_away_94 : decode cX8_away 94 = .ok (.iload_n 3, 1) ∧ 94 + 1 = 95 := ⟨by decide +kernel, rfl⟩
theorem dX8_away_95 : decode cX8_away 95 = .ok (.if_icmp .le 8, 3) ∧ 95 + 3 = 98 ∧ ((95 : Nat) : Int) + (8) = ((103 : Nat) : Int) := ⟨by decide +kernel, rfl, by decide⟩
theorem dX8_away_98 : decode cX8_away 98 = .ok (.iload 5, 2) ∧ 98 + 2 = 100 := ⟨by decide +kernel, rfl⟩
theorem dX8_away_100 : decode cX8_away 100 = .ok (.goto 4, 3) ∧ ((100 : Nat) : Int) + (4) = ((104 : Nat) : Int) := ⟨by decide +kernel, by decide⟩
theorem dX8_away_103 : decode cX8_away 103 = .ok (.iload_n 3, 1) ∧ 103 + 1 = 104 := ⟨by decide +kernel, rfl⟩
theorem dX8_away_104 : decode cX8_away 104 = .ok (.istore_n 3, 1) ∧ 104 + 1 = 105 := ⟨by decide +kernel, rfl⟩
theorem dX8_away_105 : decode cX8_away 105 = .ok (.iinc 4 1, 3) ∧ 105 + 3 = 108 := ⟨by decide +kernel, rfl⟩
theorem dX8_away_108 : decode cX8_away 108 = .ok (.goto (-86), 3) ∧ ((108 : Nat) : Int) + (-86) = ((22 : Nat) : Int) := ⟨by decide +kernel, by decide⟩
theorem dX8_away_111 : decode cX8_away 111 = .ok (.iload_n 1, 1) ∧ 111 + 1 = 112 := ⟨by decide +kernel, rfl⟩
theorem dX8_away_112 : decode cX8_away 112 = .ok (.ifCond .ne 7, 3) ∧ 112 + 3 = 115 ∧ ((112 : Nat) : Int) + (7) = ((119 : Nat) : Int) := ⟨by decide +kernel, rfl, by decide⟩
theorem dX8_away_115 : decode cX8_away 115 = .ok (.iload_n 2, 1) ∧ 115 + 1 = 116 := ⟨by decide +kernel, rfl⟩
theorem dX8_away_116 : decode cX8_away 116 = .ok (.goto 4, 3) ∧ ((116 : Nat) : Int) + (4) = ((120 : Nat) : Int) := ⟨by decide +kernel, by decide⟩
theorem dX8_away_119 : decode cX8_away 119 = .ok (.iload_n 3, 1) ∧ 119 + 1 = 120 := ⟨by decide +kernel, rfl⟩
theorem dX8_away_120 : decode cX8_away 120 = .ok (.ireturn, 1) := by decide +kernel
def B_X8_away_104 (k22 : Hp → Int32 → Int32 → Int32 → Option (Int32 × Hp)) (fu : Nat) (o : Nat) (S : Hp) (x1 : Int32) (x2 : Int32) (x4 : Int32) (s0 : Int32) : Option (Int32 × Hp) :=
  k22 S x2 s0 (x4 + (1 : Int32))
set_option maxRecDepth 100000 in
set_option maxHeartbeats 4000000 in
theorem w_X8_away_104 {E : Cx} {l : Launch} {res : Int32 × Hp} {ad : Nat → Nat} {k22 : Hp → Int32 → Int32 → Int32 → Option (Int32 × Hp)} {fu : Nat} {o : Nat} {S : Hp} {x1 : Int32} {x2 : Int32} {x4 : Int32} {s0 : Int32} (K : Kx E cX8_away RX8 (rmd 7 0 0)) (X : Bx E l yX8_away 6 (some .int) 0 0 ad (QI res)) (hk22 : ∀ (S : Hp) (x2 : Int32) (x3 : Int32) (x4 : Int32), k22 S x2 x3 x4 = some res → J E 0 0 22 [(0, vR (some o)), (1, vI x1), (2, vI x2), (3, vI x3), (4, vI x4)] [] S ad) (h : B_X8_away_104 k22 fu o S x1 x2 x4 s0 = some res) : J E 0 0 104 [(0, vR (some o)), (1, vI x1), (2, vI x2), (4, vI x4)] [vI s0] S ad := by
  refine j_istore_n (lv' := [(3, vI s0), (0, vR (some o)), (1, vI x1), (2, vI x2), (4, vI x4)]) K dX8_away_104 rfl X.2.2.1 (by decide) rfl ?_
  refine j_iinc (q := 4) (v := (x4 + (1 : Int32))) (lv' := [(4, vI (x4 + (1 : Int32))), (3, vI s0), (0, vR (some o)), (1, vI x1), (2, vI x2)]) K dX8_away_105 rfl rfl X.2.2.1 (by decide) rfl ?_
  refine j_goto K dX8_away_108 ?_
  exact j_sub [2, 3, 4, 1, 0] rfl (hk22 _ _ _ _ h)
def B_X8_away_91 (k22 : Hp → Int32 → Int32 → Int32 → Option (Int32 × Hp)) (fu : Nat) (o : Nat) (S : Hp) (x1 : Int32) (x3 : Int32) (x4 : Int32) (x5 : Int32) (s0 : Int32) : Option (Int32 × Hp) :=
  if x5 ≤ x3 then
    B_X8_away_104 k22 fu o S x1 s0 x4 x3
  else
    B_X8_away_104 k22 fu o S x1 s0 x4 x5
set_option maxRecDepth 100000 in
set_option maxHeartbeats 4000000 in
theorem w_X8_away_91 {E : Cx} {l : Launch} {res : Int32 × Hp} {ad : Nat → Nat} {k22 : Hp → Int32 → Int32 → Int32 → Option (Int32 × Hp)} {fu : Nat} {o : Nat} {S : Hp} {x1 : Int32} {x3 : Int32} {x4 : Int32} {x5 : Int32} {s0 : Int32} (K : Kx E cX8_away RX8 (rmd 7 0 0)) (X : Bx E l yX8_away 6 (some .int) 0 0 ad (QI res)) (hk22 : ∀ (S : Hp) (x2 : Int32) (x3 : Int32) (x4 : Int32), k22 S x2 x3 x4 = some res → J E 0 0 22 [(0, vR (some o)), (1, vI x1), (2, vI x2), (3, vI x3), (4, vI x4)] [] S ad) (h : B_X8_away_91 k22 fu o S x1 x3 x4 x5 s0 = some res) : J E 0 0 91 [(0, vR (some o)), (1, vI x1), (3, vI x3), (4, vI x4), (5, vI x5)] [vI s0] S ad := by
  refine j_istore_n (lv' := [(2, vI s0), (0, vR (some o)), (1, vI x1), (3, vI x3), (4, vI x4), (5, vI x5)]) K dX8_away_91 rfl X.2.2.1 (by decide) rfl ?_
  refine j_iload K dX8_away_92 5 rfl ?_
  refine j_iload_n K dX8_away_94 rfl 3 rfl ?_
  refine j_icmp_le K dX8_away_95 (fun c95 => ?_) (fun c95 => ?_)
  · replace h := it c95 h
    refine j_iload_n K dX8_away_103 rfl 3 rfl ?_
    exact j_sub [1, 2, 0, 4] rfl (w_X8_away_104 K X hk22 h)
  · replace h := ie c95 h
    refine j_iload K dX8_away_98 5 rfl ?_
    refine j_goto K dX8_away_100 ?_
    exact j_sub [1, 2, 0, 4] rfl (w_X8_away_104 K X hk22 h)
def L_X8_away_38 (k22 : Hp → Int32 → Int32 → Int32 → Option (Int32 × Hp)) (k38 : Hp → Int32 → Option (Int32 × Hp)) (fu : Nat) (o : Nat) (x1 : Int32) (x2 : Int32) (x3 : Int32) (x4 : Int32) (S : Hp) (x5 : Int32) : Option (Int32 × Hp) :=
  (gI S (some o) 6 7).bind fun v41 =>
  if v41 ≤ x5 then
    (ob S 6 (some o)).bind fun _ =>
    b2 (F_X8_thoughtAll fu S o) fun v70 S70 =>
    (ob S70 6 (some o)).bind fun _ =>
    (F_X8_lays fu S70 o).bind fun S76 =>
    if v70 ≤ x3 then
      B_X8_away_91 k22 fu o S76 x1 x3 x4 v70 x2
    else
      B_X8_away_91 k22 fu o S76 x1 x3 x4 v70 x4
  else
    (gR S (some o) 6 6).bind fun v48 =>
    (aG S v48 x5).bind fun v54 =>
    (aP S v48 x5 (v54 &&& (((1 : Int32) <<< (x4 &&& 31)) ^^^ (-1 : Int32)))).bind fun S62 =>
    k38 S62 (x5 + (1 : Int32))
set_option maxRecDepth 100000 in
set_option maxHeartbeats 4000000 in
theorem wl_X8_away_38 {E : Cx} {l : Launch} {res : Int32 × Hp} {ad : Nat → Nat} {k22 : Hp → Int32 → Int32 → Int32 → Option (Int32 × Hp)} {k38 : Hp → Int32 → Option (Int32 × Hp)} {fu : Nat} {o : Nat} {S : Hp} {x1 : Int32} {x2 : Int32} {x3 : Int32} {x4 : Int32} {x5 : Int32} (K : Kx E cX8_away RX8 (rmd 7 0 0)) (X : Bx E l yX8_away 6 (some .int) 0 0 ad (QI res)) (hk22 : ∀ (S : Hp) (x2 : Int32) (x3 : Int32) (x4 : Int32), k22 S x2 x3 x4 = some res → J E 0 0 22 [(0, vR (some o)), (1, vI x1), (2, vI x2), (3, vI x3), (4, vI x4)] [] S ad) (hk38 : ∀ (S : Hp) (x5 : Int32), k38 S x5 = some res → J E 0 0 38 [(0, vR (some o)), (1, vI x1), (2, vI x2), (3, vI x3), (4, vI x4), (5, vI x5)] [] S ad) (h : L_X8_away_38 k22 k38 fu o x1 x2 x3 x4 S x5 = some res) : J E 0 0 38 [(0, vR (some o)), (1, vI x1), (2, vI x2), (3, vI x3), (4, vI x4), (5, vI x5)] [] S ad := by
  refine j_iload K dX8_away_38 5 rfl ?_
  refine j_aload_n K dX8_away_40 rfl 0 rfl ?_
  obtain ⟨v41, e41, h⟩ := bd h
  refine fgX8_91 K dX8_away_41 e41 ?_
  refine j_icmp_ge K dX8_away_44 (fun c44 => ?_) (fun c44 => ?_)
  · replace h := it c44 h
    refine j_aload_n K dX8_away_69 rfl 0 rfl ?_
    obtain ⟨w70, ew70, h⟩ := bd h
    have ho70 := obS ew70
    obtain ⟨v70, S70, e70, h⟩ := bd2 h
    refine j_cI (st := []) K (r_V (vs := []) (n := 0) (o := o) K (c_X8_thoughtAll e70) ho70 (by decide) rfl dX8_away_70 z1128 z1130 zs54 z13 z1131 ⟨zd_X8_thoughtAll, rfl, rfl, rfl, ⟨Nat.le_of_ble_eq_true rfl, Nat.le_of_ble_eq_true rfl⟩, Nat.le_of_ble_eq_true rfl, Nat.le_of_ble_eq_true rfl, Nat.le_of_ble_eq_true rfl⟩) rfl ?_
    refine j_istore (lv' := [(5, vI v70), (0, vR (some o)), (1, vI x1), (2, vI x2), (3, vI x3), (4, vI x4)]) K dX8_away_73 X.2.2.1 (by decide) rfl ?_
    refine j_aload_n K dX8_away_75 rfl 1 rfl ?_
    obtain ⟨w76, ew76, h⟩ := bd h
    have ho76 := obS ew76
    obtain ⟨S76, e76, h⟩ := bd h
    refine j_cV (st := []) K (r_V (vs := []) (n := 0) (o := o) K (c_X8_lays e76) ho76 (by decide) rfl dX8_away_76 z1136 z1138 zs56 z13 z1139 ⟨zd_X8_lays, rfl, rfl, rfl, ⟨Nat.le_of_ble_eq_true rfl, Nat.le_of_ble_eq_true rfl⟩, Nat.le_of_ble_eq_true rfl, Nat.le_of_ble_eq_true rfl, Nat.le_of_ble_eq_true rfl⟩) rfl ?_
    refine j_iload K dX8_away_79 0 rfl ?_
    refine j_iload_n K dX8_away_81 rfl 4 rfl ?_
    refine j_icmp_le K dX8_away_82 (fun c82 => ?_) (fun c82 => ?_)
    · replace h := it c82 h
      refine j_iload_n K dX8_away_90 rfl 3 rfl ?_
      exact j_sub [1, 2, 4, 5, 0] rfl (w_X8_away_91 K X hk22 h)
    · replace h := ie c82 h
      refine j_iload K dX8_away_85 5 rfl ?_
      refine j_goto K dX8_away_87 ?_
      exact j_sub [1, 2, 4, 5, 0] rfl (w_X8_away_91 K X hk22 h)
  · replace h := ie c44 h
    refine j_aload_n K dX8_away_47 rfl 0 rfl ?_
    obtain ⟨v48, e48, h⟩ := bd h
    refine fgX8_25 K dX8_away_48 e48 ?_
    refine j_iload K dX8_away_51 5 rfl ?_
    refine j_dup2 K dX8_away_53 rfl rfl ?_
    obtain ⟨v54, e54, h⟩ := bd h
    refine j_aG K dX8_away_54 e54 ?_
    refine j_iconst (v := (1 : Int32)) K dX8_away_55 (by decide) ?_
    refine j_iload K dX8_away_56 4 rfl ?_
    refine j_ishl K dX8_away_58 ?_
    refine j_iconst (v := (-1 : Int32)) K dX8_away_59 (by decide) ?_
    refine j_ixor K dX8_away_60 ?_
    refine j_iand K dX8_away_61 ?_
    obtain ⟨S62, e62, h⟩ := bd h
    refine j_aP K dX8_away_62 e62 ?_
    refine j_iinc (q := 5) (v := (x5 + (1 : Int32))) (lv' := [(5, vI (x5 + (1 : Int32))), (0, vR (some o)), (1, vI x1), (2, vI x2), (3, vI x3), (4, vI x4)]) K dX8_away_63 rfl rfl X.2.2.1 (by decide) rfl ?_
    refine j_goto K dX8_away_66 ?_
    exact j_sub [1, 2, 3, 4, 5, 0] rfl (hk38 _ _ h)
def B_X8_away_38 (k22 : Hp → Int32 → Int32 → Int32 → Option (Int32 × Hp)) (fu : Nat) (o : Nat) (x1 : Int32) (x2 : Int32) (x3 : Int32) (x4 : Int32) : Nat → Hp → Int32 → Option (Int32 × Hp)
  | 0 => fun _ _ => none
  | n + 1 => L_X8_away_38 k22 (B_X8_away_38 k22 fu o x1 x2 x3 x4 n) fu o x1 x2 x3 x4
theorem w_X8_away_38 {E : Cx} {l : Launch} {res : Int32 × Hp} {ad : Nat → Nat} {k22 : Hp → Int32 → Int32 → Int32 → Option (Int32 × Hp)} {fu : Nat} {o : Nat} {x1 : Int32} {x2 : Int32} {x3 : Int32} {x4 : Int32} (K : Kx E cX8_away RX8 (rmd 7 0 0)) (X : Bx E l yX8_away 6 (some .int) 0 0 ad (QI res)) (hk22 : ∀ (S : Hp) (x2 : Int32) (x3 : Int32) (x4 : Int32), k22 S x2 x3 x4 = some res → J E 0 0 22 [(0, vR (some o)), (1, vI x1), (2, vI x2), (3, vI x3), (4, vI x4)] [] S ad) : ∀ (n : Nat) (S : Hp) (x5 : Int32), B_X8_away_38 k22 fu o x1 x2 x3 x4 n S x5 = some res → J E 0 0 38 [(0, vR (some o)), (1, vI x1), (2, vI x2), (3, vI x3), (4, vI x4), (5, vI x5)] [] S ad := by
  intro n
  induction n with
  | zero =>
    intro S x5 h
    cases h
  | succ n ih =>
    intro S x5 h
    exact wl_X8_away_38 K X hk22 ih h
def B_X8_away_120 (fu : Nat) (o : Nat) (S : Hp) (s0 : Int32) : Option (Int32 × Hp) :=
  some (s0, S)
set_option maxRecDepth 100000 in
set_option maxHeartbeats 4000000 in
theorem w_X8_away_120 {E : Cx} {l : Launch} {res : Int32 × Hp} {ad : Nat → Nat} {fu : Nat} {o : Nat} {S : Hp} {s0 : Int32} (K : Kx E cX8_away RX8 (rmd 7 0 0)) (X : Bx E l yX8_away 6 (some .int) 0 0 ad (QI res)) (h : B_X8_away_120 fu o S s0 = some res) : J E 0 0 120 [] [vI s0] S ad := by
  exact j_iret K X dX8_away_120 h
def L_X8_away_22 (k22 : Hp → Int32 → Int32 → Int32 → Option (Int32 × Hp)) (fu : Nat) (o : Nat) (x1 : Int32) (S : Hp) (x2 : Int32) (x3 : Int32) (x4 : Int32) : Option (Int32 × Hp) :=
  (gI S (some o) 6 0).bind fun v25 =>
  if v25 ≤ x4 then
    if x1 = 0 then
      B_X8_away_120 fu o S x2
    else
      B_X8_away_120 fu o S x3
  else
    (ob S 6 (some o)).bind fun _ =>
    (F_X8_keeps fu S o).bind fun S32 =>
    B_X8_away_38 k22 fu o x1 x2 x3 x4 fu S32 (0 : Int32)
set_option maxRecDepth 100000 in
set_option maxHeartbeats 4000000 in
theorem wl_X8_away_22 {E : Cx} {l : Launch} {res : Int32 × Hp} {ad : Nat → Nat} {k22 : Hp → Int32 → Int32 → Int32 → Option (Int32 × Hp)} {fu : Nat} {o : Nat} {S : Hp} {x1 : Int32} {x2 : Int32} {x3 : Int32} {x4 : Int32} (K : Kx E cX8_away RX8 (rmd 7 0 0)) (X : Bx E l yX8_away 6 (some .int) 0 0 ad (QI res)) (hk22 : ∀ (S : Hp) (x2 : Int32) (x3 : Int32) (x4 : Int32), k22 S x2 x3 x4 = some res → J E 0 0 22 [(0, vR (some o)), (1, vI x1), (2, vI x2), (3, vI x3), (4, vI x4)] [] S ad) (h : L_X8_away_22 k22 fu o x1 S x2 x3 x4 = some res) : J E 0 0 22 [(0, vR (some o)), (1, vI x1), (2, vI x2), (3, vI x3), (4, vI x4)] [] S ad := by
  refine j_iload K dX8_away_22 4 rfl ?_
  refine j_aload_n K dX8_away_24 rfl 0 rfl ?_
  obtain ⟨v25, e25, h⟩ := bd h
  refine fgX8_84 K dX8_away_25 e25 ?_
  refine j_icmp_ge K dX8_away_28 (fun c28 => ?_) (fun c28 => ?_)
  · replace h := it c28 h
    refine j_iload_n K dX8_away_111 rfl 1 rfl ?_
    refine j_if_ne K dX8_away_112 (fun c112 => ?_) (fun c112 => ?_)
    · replace h := ie c112 h
      refine j_iload_n K dX8_away_119 rfl 3 rfl ?_
      exact j_sub [] rfl (w_X8_away_120 K X h)
    · replace h := it c112 h
      refine j_iload_n K dX8_away_115 rfl 2 rfl ?_
      refine j_goto K dX8_away_116 ?_
      exact j_sub [] rfl (w_X8_away_120 K X h)
  · replace h := ie c28 h
    refine j_aload_n K dX8_away_31 rfl 0 rfl ?_
    obtain ⟨w32, ew32, h⟩ := bd h
    have ho32 := obS ew32
    obtain ⟨S32, e32, h⟩ := bd h
    refine j_cV (st := []) K (r_V (vs := []) (n := 0) (o := o) K (c_X8_keeps e32) ho32 (by decide) rfl dX8_away_32 z1132 z1134 zs55 z13 z1135 ⟨zd_X8_keeps, rfl, rfl, rfl, ⟨Nat.le_of_ble_eq_true rfl, Nat.le_of_ble_eq_true rfl⟩, Nat.le_of_ble_eq_true rfl, Nat.le_of_ble_eq_true rfl, Nat.le_of_ble_eq_true rfl⟩) rfl ?_
    refine j_iconst (v := (0 : Int32)) K dX8_away_35 (by decide) ?_
    refine j_istore (lv' := [(5, vI (0 : Int32)), (0, vR (some o)), (1, vI x1), (2, vI x2), (3, vI x3), (4, vI x4)]) K dX8_away_36 X.2.2.1 (by decide) rfl ?_
    exact j_sub [1, 2, 3, 4, 5, 0] rfl (w_X8_away_38 K X hk22 _ _ _ h)
def B_X8_away_22 (fu : Nat) (o : Nat) (x1 : Int32) : Nat → Hp → Int32 → Int32 → Int32 → Option (Int32 × Hp)
  | 0 => fun _ _ _ _ => none
  | n + 1 => L_X8_away_22 (B_X8_away_22 fu o x1 n) fu o x1
theorem w_X8_away_22 {E : Cx} {l : Launch} {res : Int32 × Hp} {ad : Nat → Nat} {fu : Nat} {o : Nat} {x1 : Int32} (K : Kx E cX8_away RX8 (rmd 7 0 0)) (X : Bx E l yX8_away 6 (some .int) 0 0 ad (QI res)) : ∀ (n : Nat) (S : Hp) (x2 : Int32) (x3 : Int32) (x4 : Int32), B_X8_away_22 fu o x1 n S x2 x3 x4 = some res → J E 0 0 22 [(0, vR (some o)), (1, vI x1), (2, vI x2), (3, vI x3), (4, vI x4)] [] S ad := by
  intro n
  induction n with
  | zero =>
    intro S x2 x3 x4 h
    cases h
  | succ n ih =>
    intro S x2 x3 x4 h
    exact wl_X8_away_22 K X ih h
def F_X8_away (fu : Nat) (S : Hp) (o : Nat) (x1 : Int32) : Option (Int32 × Hp) :=
  b2 (F_X8_in S x1 (0 : Int32) (1 : Int32)) fun v3 S3 =>
  if v3 = 0 then
    some ((-2 : Int32), S3)
  else
    (ob S3 6 (some o)).bind fun _ =>
    b2 (F_X8_thoughtAll fu S3 o) fun v15 S15 =>
    B_X8_away_22 fu o x1 fu S15 (-1 : Int32) v15 (0 : Int32)
set_option maxRecDepth 100000 in
set_option maxHeartbeats 4000000 in
theorem w_X8_away {E : Cx} {l : Launch} {res : Int32 × Hp} {ad : Nat → Nat} {fu : Nat} {S : Hp} {o : Nat} {x1 : Int32} (K : Kx E cX8_away RX8 (rmd 7 0 0)) (X : Bx E l yX8_away 6 (some .int) 0 0 ad (QI res)) (h : F_X8_away fu S o x1 = some res) : J E 0 0 0 [(0, vR (some o)), (1, vI x1)] [] S ad := by
  refine j_iload_n K dX8_away_0 rfl 1 rfl ?_
  refine j_iconst (v := (0 : Int32)) K dX8_away_1 (by decide) ?_
  refine j_iconst (v := (1 : Int32)) K dX8_away_2 (by decide) ?_
  obtain ⟨v3, S3, e3, h⟩ := bd2 h
  refine j_cI (st := []) K (r_S (vs := [vI x1, vI (0 : Int32), vI (1 : Int32)]) (n := 3) K (c_X8_in e3) dX8_away_3 z812 z813 z13 z814 ⟨zd_X8_in, rfl, rfl, rfl, ⟨Nat.le_of_ble_eq_true rfl, Nat.le_of_ble_eq_true rfl⟩, Nat.le_of_ble_eq_true rfl, Nat.le_of_ble_eq_true rfl, Nat.le_of_ble_eq_true rfl⟩) rfl ?_
  refine j_if_ne K dX8_away_6 (fun c6 => ?_) (fun c6 => ?_)
  · replace h := ie c6 h
    refine j_iconst (v := (-1 : Int32)) K dX8_away_12 (by decide) ?_
    refine j_istore_n (lv' := [(2, vI (-1 : Int32)), (0, vR (some o)), (1, vI x1)]) K dX8_away_13 rfl X.2.2.1 (by decide) rfl ?_
    refine j_aload_n K dX8_away_14 rfl 1 rfl ?_
    obtain ⟨w15, ew15, h⟩ := bd h
    have ho15 := obS ew15
    obtain ⟨v15, S15, e15, h⟩ := bd2 h
    refine j_cI (st := []) K (r_V (vs := []) (n := 0) (o := o) K (c_X8_thoughtAll e15) ho15 (by decide) rfl dX8_away_15 z1128 z1130 zs54 z13 z1131 ⟨zd_X8_thoughtAll, rfl, rfl, rfl, ⟨Nat.le_of_ble_eq_true rfl, Nat.le_of_ble_eq_true rfl⟩, Nat.le_of_ble_eq_true rfl, Nat.le_of_ble_eq_true rfl, Nat.le_of_ble_eq_true rfl⟩) rfl ?_
    refine j_istore_n (lv' := [(3, vI v15), (2, vI (-1 : Int32)), (0, vR (some o)), (1, vI x1)]) K dX8_away_18 rfl X.2.2.1 (by decide) rfl ?_
    refine j_iconst (v := (0 : Int32)) K dX8_away_19 (by decide) ?_
    refine j_istore (lv' := [(4, vI (0 : Int32)), (3, vI v15), (2, vI (-1 : Int32)), (0, vR (some o)), (1, vI x1)]) K dX8_away_20 X.2.2.1 (by decide) rfl ?_
    exact j_sub [3, 4, 2, 1, 0] rfl (w_X8_away_22 K X _ _ _ _ _ h)
  · replace h := it c6 h
    refine j_bipush (v := (-2 : Int32)) K dX8_away_9 (by decide) ?_
    exact j_iret K X dX8_away_11 h
theorem c_X8_away {l : Launch} {fu : Nat} {S : Hp} {o : Nat} {x1 : Int32} {res : Int32 × Hp} (h : F_X8_away fu S o x1 = some res) : Ct l yX8_away cX8_away 6 (some .int) (rmd 7 0 0) 0 0 [vR (some o), vI x1] S (QI res) :=
  z_entry (by decide +kernel) (Nat.le_of_ble_eq_true rfl) (fun E ad K X => w_X8_away K X h)

theorem dX8_undone_0 : decode cX8_undone 0 = .ok (.iload_n 1, 1) ∧ 0 + 1 = 1 := ⟨by decide +kernel, rfl⟩
theorem dX8_undone_1 : decode cX8_undone 1 = .ok (.iconst 0, 1) ∧ 1 + 1 = 2 := ⟨by decide +kernel, rfl⟩
theorem dX8_undone_2 : decode cX8_undone 2 = .ok (.iconst 1, 1) ∧ 2 + 1 = 3 := ⟨by decide +kernel, rfl⟩
theorem dX8_undone_3 : decode cX8_undone 3 = .ok (.invokestatic 87, 3) := by decide +kernel
theorem dX8_undone_6 : decode cX8_undone 6 = .ok (.ifCond .ne 6, 3) ∧ 6 + 3 = 9 ∧ ((6 : Nat) : Int) + (6) = ((12 : Nat) : Int) := ⟨by decide +kernel, rfl, by decide⟩
theorem dX8_undone_9 : decode cX8_undone 9 = .ok (.bipush (-2), 2) ∧ 9 + 2 = 11 := ⟨by decide +kernel, rfl⟩
theorem dX8_undone_11 : decode cX8_undone 11 = .ok (.ireturn, 1) := by decide +kernel
theorem dX8_undone_12 : decode cX8_undone 12 = .ok (.iconst (-1), 1) ∧ 12 + 1 = 13 := ⟨by decide +kernel, rfl⟩
theorem dX8_undone_13 : decode cX8_undone 13 = .ok (.istore_n 2, 1) ∧ 13 + 1 = 14 := ⟨by decide +kernel, rfl⟩
theorem dX8_undone_14 : decode cX8_undone 14 = .ok (.aload_n 0, 1) ∧ 14 + 1 = 15 := ⟨by decide +kernel, rfl⟩
theorem dX8_undone_15 : decode cX8_undone 15 = .ok (.invokevirtual 238, 3) := by decide +kernel
theorem dX8_undone_18 : decode cX8_undone 18 = .ok (.istore_n 3, 1) ∧ 18 + 1 = 19 := ⟨by decide +kernel, rfl⟩
theorem dX8_undone_19 : decode cX8_undone 19 = .ok (.iconst 0, 1) ∧ 19 + 1 = 20 := ⟨by decide +kernel, rfl⟩
theorem dX8_undone_20 : decode cX8_undone 20 = .ok (.istore 4, 2) ∧ 20 + 2 = 22 := ⟨by decide +kernel, rfl⟩
theorem dX8_undone_22 : decode cX8_undone 22 = .ok (.iload 4, 2) ∧ 22 + 2 = 24 := ⟨by decide +kernel, rfl⟩
theorem dX8_undone_24 : decode cX8_undone 24 = .ok (.aload_n 0, 1) ∧ 24 + 1 = 25 := ⟨by decide +kernel, rfl⟩
theorem dX8_undone_25 : decode cX8_undone 25 = .ok (.getfield 91, 3) ∧ 25 + 3 = 28 := ⟨by decide +kernel, rfl⟩
theorem dX8_undone_28 : decode cX8_undone 28 = .ok (.if_icmp .ge 55, 3) ∧ 28 + 3 = 31 ∧ ((28 : Nat) : Int) + (55) = ((83 : Nat) : Int) := ⟨by decide +kernel, rfl, by decide⟩
theorem dX8_undone_31 : decode cX8_undone 31 = .ok (.aload_n 0, 1) ∧ 31 + 1 = 32 := ⟨by decide +kernel, rfl⟩
theorem dX8_undone_32 : decode cX8_undone 32 = .ok (.invokevirtual 241, 3) := by decide +kernel
theorem dX8_undone_35 : decode cX8_undone 35 = .ok (.aload_n 0, 1) ∧ 35 + 1 = 36 := ⟨by decide +kernel, rfl⟩
theorem dX8_undone_36 : decode cX8_undone 36 = .ok (.iload 4, 2) ∧ 36 + 2 = 38 := ⟨by decide +kernel, rfl⟩
theorem dX8_undone_38 : decode cX8_undone 38 = .ok (.invokevirtual 107, 3) := by decide +kernel
theorem dX8_undone_41 : decode cX8_undone 41 = .ok (.aload_n 0, 1) ∧ 41 + 1 = 42 := ⟨by decide +kernel, rfl⟩
theorem dX8_undone_42 : decode cX8_undone 42 = .ok (.invokevirtual 238, 3) := by decide +kernel
theorem dX8_undone_45 : decode cX8_undone 45 = .ok (.istore 5, 2) ∧ 45 + 2 = 47 := ⟨by decide +kernel, rfl⟩
theorem dX8_undone_47 : decode cX8_undone 47 = .ok (.aload_n 0, 1) ∧ 47 + 1 = 48 := ⟨by decide +kernel, rfl⟩
theorem dX8_undone_48 : decode cX8_undone 48 = .ok (.invokevirtual 244, 3) := by decide +kernel
theorem dX8_undone_51 : decode cX8_undone 51 = .ok (.iload 5, 2) ∧ 51 + 2 = 53 := ⟨by decide +kernel, rfl⟩
theorem dX8_undone_53 : decode cX8_undone 53 = .ok (.iload_n 3, 1) ∧ 53 + 1 = 54 := ⟨by decide +kernel, rfl⟩
theorem dX8_undone_54 : decode cX8_undone 54 = .ok (.if_icmp .le 8, 3) ∧ 54 + 3 = 57 ∧ ((54 : Nat) : Int) + (8) = ((62 : Nat) : Int) := ⟨by decide +kernel, rfl, by decide⟩
theorem dX8_undone_57 : decode cX8_undone 57 = .ok (.iload 4, 2) ∧ 57 + 2 = 59 := ⟨by decide +kernel, rfl⟩
theorem dX8_undone_59 : decode cX8_undone 59 = .ok (.goto 4, 3) ∧ ((59 : Nat) : Int) + (4) = ((63 : Nat) : Int) := ⟨by decide +kernel, by decide⟩
theorem dX8_undone_62 : decode cX8_undone 62 = .ok (.iload_n 2, 1) ∧ 62 + 1 = 63 := ⟨by decide +kernel, rfl⟩
theorem dX8_undone_63 : decode cX8_undone 63 = .ok (.istore_n 2, 1) ∧ 63 + 1 = 64 := ⟨by decide +kernel, rfl⟩
theorem dX8_undone_64 : decode cX8_undone 64 = .ok (.iload 5, 2) ∧ 64 + 2 = 66 := ⟨by decide +kernel, rfl⟩
theorem dX8_undone_66 : decode cX8_undone 66 = .ok (.iload_n 3, 1) ∧ 66 + 1 = 67 := ⟨by decide +kernel, rfl⟩
theorem dX8_undone_67 : decode cX8_undone 67 = .ok (.if_icmp .le 8, 3) ∧ 67 + 3 = 70 ∧ ((67 : Nat) : Int) + (8) = ((75 : Nat) : Int) := ⟨by decide +kernel, rfl, by decide⟩
theorem dX8_undone_70 : decode cX8_undone 70 = .ok (.iload 5, 2) ∧ 70 + 2 = 72 := ⟨by decide +kernel, rfl⟩
theorem dX8_undone_72 : decode cX8_undone 72 = .ok (.goto 4, 3) ∧ ((72 : Nat) : Int) + (4) = ((76 : Nat) : Int) := ⟨by decide +kernel, by decide⟩
theorem dX8_undone_75 : decode cX8_undone 75 = .ok (.iload_n 3, 1) ∧ 75 + 1 = 76 := ⟨by decide +kernel, rfl⟩
theorem dX8_undone_76 : decode cX8_undone 76 = .ok (.istore_n 3, 1) ∧ 76 + 1 = 77 := ⟨by decide +kernel, rfl⟩
theorem dX8_undone_77 : decode cX8_undone 77 = .ok (.iinc 4 1, 3) ∧ 77 + 3 = 80 := ⟨by decide +kernel, rfl⟩
theorem dX8_undone_80 : decode cX8_undone 80 = .ok (.goto (-58), 3) ∧ ((80 : Nat) : Int) + (-58) = ((22 : Nat) : Int) := ⟨by decide +kernel, by decide⟩
theorem dX8_undone_83 : decode cX8_undone 83 = .ok (.iload_n 1, 1) ∧ 83 + 1 = 84 := ⟨by decide +kernel, rfl⟩
theorem dX8_undone_84 : decode cX8_undone 84 = .ok (.ifCond .ne 7, 3) ∧ 84 + 3 = 87 ∧ ((84 : Nat) : Int) + (7) = ((91 : Nat) : Int) := ⟨by decide +kernel, rfl, by decide⟩
theorem dX8_undone_87 : decode cX8_undone 87 = .ok (.iload_n 2, 1) ∧ 87 + 1 = 88 := ⟨by decide +kernel, rfl⟩
theorem dX8_undone_88 : decode cX8_undone 88 = .ok (.goto 4, 3) ∧ ((88 : Nat) : Int) + (4) = ((92 : Nat) : Int) := ⟨by decide +kernel, by decide⟩
theorem dX8_undone_91 : decode cX8_undone 91 = .ok (.iload_n 3, 1) ∧ 91 + 1 = 92 := ⟨by decide +kernel, rfl⟩
theorem dX8_undone_92 : decode cX8_undone 92 = .ok (.ireturn, 1) := by decide +kernel
def B_X8_undone_76 (k22 : Hp → Int32 → Int32 → Int32 → Option (Int32 × Hp)) (fu : Nat) (o : Nat) (S : Hp) (x1 : Int32) (x2 : Int32) (x4 : Int32) (s0 : Int32) : Option (Int32 × Hp) :=
  k22 S x2 s0 (x4 + (1 : Int32))
set_option maxRecDepth 100000 in
set_option maxHeartbeats 4000000 in
theorem w_X8_undone_76 {E : Cx} {l : Launch} {res : Int32 × Hp} {ad : Nat → Nat} {k22 : Hp → Int32 → Int32 → Int32 → Option (Int32 × Hp)} {fu : Nat} {o : Nat} {S : Hp} {x1 : Int32} {x2 : Int32} {x4 : Int32} {s0 : Int32} (K : Kx E cX8_undone RX8 (rmd 7 0 0)) (X : Bx E l yX8_undone 6 (some .int) 0 0 ad (QI res)) (hk22 : ∀ (S : Hp) (x2 : Int32) (x3 : Int32) (x4 : Int32), k22 S x2 x3 x4 = some res → J E 0 0 22 [(0, vR (some o)), (1, vI x1), (2, vI x2), (3, vI x3), (4, vI x4)] [] S ad) (h : B_X8_undone_76 k22 fu o S x1 x2 x4 s0 = some res) : J E 0 0 76 [(0, vR (some o)), (1, vI x1), (2, vI x2), (4, vI x4)] [vI s0] S ad := by
  refine j_istore_n (lv' := [(3, vI s0), (0, vR (some o)), (1, vI x1), (2, vI x2), (4, vI x4)]) K dX8_undone_76 rfl X.2.2.1 (by decide) rfl ?_
  refine j_iinc (q := 4) (v := (x4 + (1 : Int32))) (lv' := [(4, vI (x4 + (1 : Int32))), (3, vI s0), (0, vR (some o)), (1, vI x1), (2, vI x2)]) K dX8_undone_77 rfl rfl X.2.2.1 (by decide) rfl ?_
  refine j_goto K dX8_undone_80 ?_
  exact j_sub [2, 3, 4, 1, 0] rfl (hk22 _ _ _ _ h)
def B_X8_undone_63 (k22 : Hp → Int32 → Int32 → Int32 → Option (Int32 × Hp)) (fu : Nat) (o : Nat) (S : Hp) (x1 : Int32) (x3 : Int32) (x4 : Int32) (x5 : Int32) (s0 : Int32) : Option (Int32 × Hp) :=
  if x5 ≤ x3 then
    B_X8_undone_76 k22 fu o S x1 s0 x4 x3
  else
    B_X8_undone_76 k22 fu o S x1 s0 x4 x5
set_option maxRecDepth 100000 in
set_option maxHeartbeats 4000000 in
theorem w_X8_undone_63 {E : Cx} {l : Launch} {res : Int32 × Hp} {ad : Nat → Nat} {k22 : Hp → Int32 → Int32 → Int32 → Option (Int32 × Hp)} {fu : Nat} {o : Nat} {S : Hp} {x1 : Int32} {x3 : Int32} {x4 : Int32} {x5 : Int32} {s0 : Int32} (K : Kx E cX8_undone RX8 (rmd 7 0 0)) (X : Bx E l yX8_undone 6 (some .int) 0 0 ad (QI res)) (hk22 : ∀ (S : Hp) (x2 : Int32) (x3 : Int32) (x4 : Int32), k22 S x2 x3 x4 = some res → J E 0 0 22 [(0, vR (some o)), (1, vI x1), (2, vI x2), (3, vI x3), (4, vI x4)] [] S ad) (h : B_X8_undone_63 k22 fu o S x1 x3 x4 x5 s0 = some res) : J E 0 0 63 [(0, vR (some o)), (1, vI x1), (3, vI x3), (4, vI x4), (5, vI x5)] [vI s0] S ad := by
  refine j_istore_n (lv' := [(2, vI s0), (0, vR (some o)), (1, vI x1), (3, vI x3), (4, vI x4), (5, vI x5)]) K dX8_undone_63 rfl X.2.2.1 (by decide) rfl ?_
  refine j_iload K dX8_undone_64 5 rfl ?_
  refine j_iload_n K dX8_undone_66 rfl 3 rfl ?_
  refine j_icmp_le K dX8_undone_67 (fun c67 => ?_) (fun c67 => ?_)
  · replace h := it c67 h
    refine j_iload_n K dX8_undone_75 rfl 3 rfl ?_
    exact j_sub [1, 2, 0, 4] rfl (w_X8_undone_76 K X hk22 h)
  · replace h := ie c67 h
    refine j_iload K dX8_undone_70 5 rfl ?_
    refine j_goto K dX8_undone_72 ?_
    exact j_sub [1, 2, 0, 4] rfl (w_X8_undone_76 K X hk22 h)
def B_X8_undone_92 (fu : Nat) (o : Nat) (S : Hp) (s0 : Int32) : Option (Int32 × Hp) :=
  some (s0, S)
set_option maxRecDepth 100000 in
set_option maxHeartbeats 4000000 in
theorem w_X8_undone_92 {E : Cx} {l : Launch} {res : Int32 × Hp} {ad : Nat → Nat} {fu : Nat} {o : Nat} {S : Hp} {s0 : Int32} (K : Kx E cX8_undone RX8 (rmd 7 0 0)) (X : Bx E l yX8_undone 6 (some .int) 0 0 ad (QI res)) (h : B_X8_undone_92 fu o S s0 = some res) : J E 0 0 92 [] [vI s0] S ad := by
  exact j_iret K X dX8_undone_92 h
def L_X8_undone_22 (k22 : Hp → Int32 → Int32 → Int32 → Option (Int32 × Hp)) (fu : Nat) (o : Nat) (x1 : Int32) (S : Hp) (x2 : Int32) (x3 : Int32) (x4 : Int32) : Option (Int32 × Hp) :=
  (gI S (some o) 6 7).bind fun v25 =>
  if v25 ≤ x4 then
    if x1 = 0 then
      B_X8_undone_92 fu o S x2
    else
      B_X8_undone_92 fu o S x3
  else
    (ob S 6 (some o)).bind fun _ =>
    (F_X8_keeps fu S o).bind fun S32 =>
    (ob S32 6 (some o)).bind fun _ =>
    (F_X8_drops fu S32 o x4).bind fun S38 =>
    (ob S38 6 (some o)).bind fun _ =>
    b2 (F_X8_thoughtAll fu S38 o) fun v42 S42 =>
    (ob S42 6 (some o)).bind fun _ =>
    (F_X8_lays fu S42 o).bind fun S48 =>
    if v42 ≤ x3 then
      B_X8_undone_63 k22 fu o S48 x1 x3 x4 v42 x2
    else
      B_X8_undone_63 k22 fu o S48 x1 x3 x4 v42 x4
set_option maxRecDepth 100000 in
set_option maxHeartbeats 4000000 in
theorem wl_X8_undone_22 {E : Cx} {l : Launch} {res : Int32 × Hp} {ad : Nat → Nat} {k22 : Hp → Int32 → Int32 → Int32 → Option (Int32 × Hp)} {fu : Nat} {o : Nat} {S : Hp} {x1 : Int32} {x2 : Int32} {x3 : Int32} {x4 : Int32} (K : Kx E cX8_undone RX8 (rmd 7 0 0)) (X : Bx E l yX8_undone 6 (some .int) 0 0 ad (QI res)) (hk22 : ∀ (S : Hp) (x2 : Int32) (x3 : Int32) (x4 : Int32), k22 S x2 x3 x4 = some res → J E 0 0 22 [(0, vR (some o)), (1, vI x1), (2, vI x2), (3, vI x3), (4, vI x4)] [] S ad) (h : L_X8_undone_22 k22 fu o x1 S x2 x3 x4 = some res) : J E 0 0 22 [(0, vR (some o)), (1, vI x1), (2, vI x2), (3, vI x3), (4, vI x4)] [] S ad := by
  refine j_iload K dX8_undone_22 4 rfl ?_
  refine j_aload_n K dX8_undone_24 rfl 0 rfl ?_
  obtain ⟨v25, e25, h⟩ := bd h
  refine fgX8_91 K dX8_undone_25 e25 ?_
  refine j_icmp_ge K dX8_undone_28 (fun c28 => ?_) (fun c28 => ?_)
  · replace h := it c28 h
    refine j_iload_n K dX8_undone_83 rfl 1 rfl ?_
    refine j_if_ne K dX8_undone_84 (fun c84 => ?_) (fun c84 => ?_)
    · replace h := ie c84 h
      refine j_iload_n K dX8_undone_91 rfl 3 rfl ?_
      exact j_sub [] rfl (w_X8_undone_92 K X h)
    · replace h := it c84 h
      refine j_iload_n K dX8_undone_87 rfl 2 rfl ?_
      refine j_goto K dX8_undone_88 ?_
      exact j_sub [] rfl (w_X8_undone_92 K X h)
  · replace h := ie c28 h
    refine j_aload_n K dX8_undone_31 rfl 0 rfl ?_
    obtain ⟨w32, ew32, h⟩ := bd h
    have ho32 := obS ew32
    obtain ⟨S32, e32, h⟩ := bd h
    refine j_cV (st := []) K (r_V (vs := []) (n := 0) (o := o) K (c_X8_keeps e32) ho32 (by decide) rfl dX8_undone_32 z1132 z1134 zs55 z13 z1135 ⟨zd_X8_keeps, rfl, rfl, rfl, ⟨Nat.le_of_ble_eq_true rfl, Nat.le_of_ble_eq_true rfl⟩, Nat.le_of_ble_eq_true rfl, Nat.le_of_ble_eq_true rfl, Nat.le_of_ble_eq_true rfl⟩) rfl ?_
    refine j_aload_n K dX8_undone_35 rfl 0 rfl ?_
    refine j_iload K dX8_undone_36 4 rfl ?_
    obtain ⟨w38, ew38, h⟩ := bd h
    have ho38 := obS ew38
    obtain ⟨S38, e38, h⟩ := bd h
    refine j_cV (st := []) K (r_V (vs := [vI x4]) (n := 1) (o := o) K (c_X8_drops e38) ho38 (by decide) rfl dX8_undone_38 z983 z985 zs34 z13 z986 ⟨zd_X8_drops, rfl, rfl, rfl, ⟨Nat.le_of_ble_eq_true rfl, Nat.le_of_ble_eq_true rfl⟩, Nat.le_of_ble_eq_true rfl, Nat.le_of_ble_eq_true rfl, Nat.le_of_ble_eq_true rfl⟩) rfl ?_
    refine j_aload_n K dX8_undone_41 rfl 0 rfl ?_
    obtain ⟨w42, ew42, h⟩ := bd h
    have ho42 := obS ew42
    obtain ⟨v42, S42, e42, h⟩ := bd2 h
    refine j_cI (st := []) K (r_V (vs := []) (n := 0) (o := o) K (c_X8_thoughtAll e42) ho42 (by decide) rfl dX8_undone_42 z1128 z1130 zs54 z13 z1131 ⟨zd_X8_thoughtAll, rfl, rfl, rfl, ⟨Nat.le_of_ble_eq_true rfl, Nat.le_of_ble_eq_true rfl⟩, Nat.le_of_ble_eq_true rfl, Nat.le_of_ble_eq_true rfl, Nat.le_of_ble_eq_true rfl⟩) rfl ?_
    refine j_istore (lv' := [(5, vI v42), (0, vR (some o)), (1, vI x1), (2, vI x2), (3, vI x3), (4, vI x4)]) K dX8_undone_45 X.2.2.1 (by decide) rfl ?_
    refine j_aload_n K dX8_undone_47 rfl 1 rfl ?_
    obtain ⟨w48, ew48, h⟩ := bd h
    have ho48 := obS ew48
    obtain ⟨S48, e48, h⟩ := bd h
    refine j_cV (st := []) K (r_V (vs := []) (n := 0) (o := o) K (c_X8_lays e48) ho48 (by decide) rfl dX8_undone_48 z1136 z1138 zs56 z13 z1139 ⟨zd_X8_lays, rfl, rfl, rfl, ⟨Nat.le_of_ble_eq_true rfl, Nat.le_of_ble_eq_true rfl⟩, Nat.le_of_ble_eq_true rfl, Nat.le_of_ble_eq_true rfl, Nat.le_of_ble_eq_true rfl⟩) rfl ?_
    refine j_iload K dX8_undone_51 0 rfl ?_
    refine j_iload_n K dX8_undone_53 rfl 4 rfl ?_
    refine j_icmp_le K dX8_undone_54 (fun c54 => ?_) (fun c54 => ?_)
    · replace h := it c54 h
      refine j_iload_n K dX8_undone_62 rfl 3 rfl ?_
      exact j_sub [1, 2, 4, 5, 0] rfl (w_X8_undone_63 K X hk22 h)
    · replace h := ie c54 h
      refine j_iload K dX8_undone_57 5 rfl ?_
      refine j_goto K dX8_undone_59 ?_
      exact j_sub [1, 2, 4, 5, 0] rfl (w_X8_undone_63 K X hk22 h)
def B_X8_undone_22 (fu : Nat) (o : Nat) (x1 : Int32) : Nat → Hp → Int32 → Int32 → Int32 → Option (Int32 × Hp)
  | 0 => fun _ _ _ _ => none
  | n + 1 => L_X8_undone_22 (B_X8_undone_22 fu o x1 n) fu o x1
theorem w_X8_undone_22 {E : Cx} {l : Launch} {res : Int32 × Hp} {ad : Nat → Nat} {fu : Nat} {o : Nat} {x1 : Int32} (K : Kx E cX8_undone RX8 (rmd 7 0 0)) (X : Bx E l yX8_undone 6 (some .int) 0 0 ad (QI res)) : ∀ (n : Nat) (S : Hp) (x2 : Int32) (x3 : Int32) (x4 : Int32), B_X8_undone_22 fu o x1 n S x2 x3 x4 = some res → J E 0 0 22 [(0, vR (some o)), (1, vI x1), (2, vI x2), (3, vI x3), (4, vI x4)] [] S ad := by
  intro n
  induction n with
  | zero =>
    intro S x2 x3 x4 h
    cases h
  | succ n ih =>
    intro S x2 x3 x4 h
    exact wl_X8_undone_22 K X ih h
def F_X8_undone (fu : Nat) (S : Hp) (o : Nat) (x1 : Int32) : Option (Int32 × Hp) :=
  b2 (F_X8_in S x1 (0 : Int32) (1 : Int32)) fun v3 S3 =>
  if v3 = 0 then
    some ((-2 : Int32), S3)
  else
    (ob S3 6 (some o)).bind fun _ =>
    b2 (F_X8_thoughtAll fu S3 o) fun v15 S15 =>
    B_X8_undone_22 fu o x1 fu S15 (-1 : Int32) v15 (0 : Int32)
set_option maxRecDepth 100000 in
set_option maxHeartbeats 4000000 in
theorem w_X8_undone {E : Cx} {l : Launch} {res : Int32 × Hp} {ad : Nat → Nat} {fu : Nat} {S : Hp} {o : Nat} {x1 : Int32} (K : Kx E cX8_undone RX8 (rmd 7 0 0)) (X : Bx E l yX8_undone 6 (some .int) 0 0 ad (QI res)) (h : F_X8_undone fu S o x1 = some res) : J E 0 0 0 [(0, vR (some o)), (1, vI x1)] [] S ad := by
  refine j_iload_n K dX8_undone_0 rfl 1 rfl ?_
  refine j_iconst (v := (0 : Int32)) K dX8_undone_1 (by decide) ?_
  refine j_iconst (v := (1 : Int32)) K dX8_undone_2 (by decide) ?_
  obtain ⟨v3, S3, e3, h⟩ := bd2 h
  refine j_cI (st := []) K (r_S (vs := [vI x1, vI (0 : Int32), vI (1 : Int32)]) (n := 3) K (c_X8_in e3) dX8_undone_3 z812 z813 z13 z814 ⟨zd_X8_in, rfl, rfl, rfl, ⟨Nat.le_of_ble_eq_true rfl, Nat.le_of_ble_eq_true rfl⟩, Nat.le_of_ble_eq_true rfl, Nat.le_of_ble_eq_true rfl, Nat.le_of_ble_eq_true rfl⟩) rfl ?_
  refine j_if_ne K dX8_undone_6 (fun c6 => ?_) (fun c6 => ?_)
  · replace h := ie c6 h
    refine j_iconst (v := (-1 : Int32)) K dX8_undone_12 (by decide) ?_
    refine j_istore_n (lv' := [(2, vI (-1 : Int32)), (0, vR (some o)), (1, vI x1)]) K dX8_undone_13 rfl X.2.2.1 (by decide) rfl ?_
    refine j_aload_n K dX8_undone_14 rfl 1 rfl ?_
    obtain ⟨w15, ew15, h⟩ := bd h
    have ho15 := obS ew15
    obtain ⟨v15, S15, e15, h⟩ := bd2 h
    refine j_cI (st := []) K (r_V (vs := []) (n := 0) (o := o) K (c_X8_thoughtAll e15) ho15 (by decide) rfl dX8_undone_15 z1128 z1130 zs54 z13 z1131 ⟨zd_X8_thoughtAll, rfl, rfl, rfl, ⟨Nat.le_of_ble_eq_true rfl, Nat.le_of_ble_eq_true rfl⟩, Nat.le_of_ble_eq_true rfl, Nat.le_of_ble_eq_true rfl, Nat.le_of_ble_eq_true rfl⟩) rfl ?_
    refine j_istore_n (lv' := [(3, vI v15), (2, vI (-1 : Int32)), (0, vR (some o)), (1, vI x1)]) K dX8_undone_18 rfl X.2.2.1 (by decide) rfl ?_
    refine j_iconst (v := (0 : Int32)) K dX8_undone_19 (by decide) ?_
    refine j_istore (lv' := [(4, vI (0 : Int32)), (3, vI v15), (2, vI (-1 : Int32)), (0, vR (some o)), (1, vI x1)]) K dX8_undone_20 X.2.2.1 (by decide) rfl ?_
    exact j_sub [3, 4, 2, 1, 0] rfl (w_X8_undone_22 K X _ _ _ _ _ h)
  · replace h := it c6 h
    refine j_bipush (v := (-2 : Int32)) K dX8_undone_9 (by decide) ?_
    exact j_iret K X dX8_undone_11 h
theorem c_X8_undone {l : Launch} {fu : Nat} {S : Hp} {o : Nat} {x1 : Int32} {res : Int32 × Hp} (h : F_X8_undone fu S o x1 = some res) : Ct l yX8_undone cX8_undone 6 (some .int) (rmd 7 0 0) 0 0 [vR (some o), vI x1] S (QI res) :=
  z_entry (by decide +kernel) (Nat.le_of_ble_eq_true rfl) (fun E ad K X => w_X8_undone K X h)

theorem dX8_pair_0 : decode cX8_pair 0 = .ok (.iload_n 1, 1) ∧ 0 + 1 = 1 := ⟨by decide +kernel, rfl⟩
theorem dX8_pair_1 : decode cX8_pair 1 = .ok (.iconst 0, 1) ∧ 1 + 1 = 2 := ⟨by decide +kernel, rfl⟩
theorem dX8_pair_2 : decode cX8_pair 2 = .ok (.iconst 1, 1) ∧ 2 + 1 = 3 := ⟨by decide +kernel, rfl⟩
theorem dX8_pair_3 : decode cX8_pair 3 = .ok (.invokestatic 87, 3) := by decide +kernel
theorem dX8_pair_6 : decode cX8_pair 6 = .ok (.ifCond .ne 6, 3) ∧ 6 + 3 = 9 ∧ ((6 : Nat) : Int) + (6) = ((12 : Nat) : Int) := ⟨by decide +kernel, rfl, by decide⟩
theorem dX8_pair_9 : decode cX8_pair 9 = .ok (.bipush (-2), 2) ∧ 9 + 2 = 11 := ⟨by decide +kernel, rfl⟩
theorem dX8_pair_11 : decode cX8_pair 11 = .ok (.ireturn, 1) := by decide +kernel
theorem dX8_pair_12 : decode cX8_pair 12 = .ok (.iconst (-1), 1) ∧ 12 + 1 = 13 := ⟨by decide +kernel, rfl⟩
theorem dX8_pair_13 : decode cX8_pair 13 = .ok (.istore_n 2, 1) ∧ 13 + 1 = 14 := ⟨by decide +kernel, rfl⟩
theorem dX8_pair_14 : decode cX8_pair 14 = .ok (.iconst (-1), 1) ∧ 14 + 1 = 15 := ⟨by decide +kernel, rfl⟩
theorem dX8_pair_15 : decode cX8_pair 15 = .ok (.istore_n 3, 1) ∧ 15 + 1 = 16 := ⟨by decide +kernel, rfl⟩
theorem dX8_pair_16 : decode cX8_pair 16 = .ok (.iconst 0, 1) ∧ 16 + 1 = 17 := ⟨by decide +kernel, rfl⟩
theorem dX8_pair_17 : decode cX8_pair 17 = .ok (.istore 4, 2) ∧ 17 + 2 = 19 := ⟨by decide +kernel, rfl⟩
theorem dX8_pair_19 : decode cX8_pair 19 = .ok (.iload 4, 2) ∧ 19 + 2 = 21 := ⟨by decide +kernel, rfl⟩
theorem dX8_pair_21 : decode cX8_pair 21 = .ok (.aload_n 0, 1) ∧ 21 + 1 = 22 := ⟨by decide +kernel, rfl⟩
theorem dX8_pair_22 : decode cX8_pair 22 = .ok (.getfield 84, 3) ∧ 22 + 3 = 25 := ⟨by decide +kernel, rfl⟩
theorem dX8_pair_25 : decode cX8_pair 25 = .ok (.if_icmp .ge 81, 3) ∧ 25 + 3 = 28 ∧ ((25 : Nat) : Int) + (81) = ((106 : Nat) : Int) := ⟨by decide +kernel, rfl, by decide⟩
theorem dX8_pair_28 : decode cX8_pair 28 = .ok (.iload 4, 2) ∧ 28 + 2 = 30 := ⟨by decide +kernel, rfl⟩
theorem dX8_pair_30 : decode cX8_pair 30 = .ok (.iconst 1, 1) ∧ 30 + 1 = 31 := ⟨by decide +kernel, rfl⟩
theorem dX8_pair_31 : decode cX8_pair 31 = .ok (.iadd, 1) ∧ 31 + 1 = 32 := ⟨by decide +kernel, rfl⟩
theorem dX8_pair_32 : decode cX8_pair 32 = .ok (.istore 5, 2) ∧ 32 + 2 = 34 := ⟨by decide +kernel, rfl⟩
theorem dX8_pair_34 : decode cX8_pair 34 = .ok (.iload 5, 2) ∧ 34 + 2 = 36 := ⟨by decide +kernel, rfl⟩
theorem dX8_pair_36 : decode cX8_pair 36 = .ok (.aload_n 0, 1) ∧ 36 + 1 = 37 := ⟨by decide +kernel, rfl⟩
theorem dX8_pair_37 : decode cX8_pair 37 = .ok (.getfield 84, 3) ∧ 37 + 3 = 40 := ⟨by decide +kernel, rfl⟩
theorem dX8_pair_40 : decode cX8_pair 40 = .ok (.if_icmp .ge 60, 3) ∧ 40 + 3 = 43 ∧ ((40 : Nat) : Int) + (60) = ((100 : Nat) : Int) := ⟨by decide +kernel, rfl, by decide⟩
theorem dX8_pair_43 : decode cX8_pair 43 = .ok (.aload_n 0, 1) ∧ 43 + 1 = 44 := ⟨by decide +kernel, rfl⟩
theorem dX8_pair_44 : decode cX8_pair 44 = .ok (.iload 4, 2) ∧ 44 + 2 = 46 := ⟨by decide +kernel, rfl⟩
theorem dX8_pair_46 : decode cX8_pair 46 = .ok (.iload 5, 2) ∧ 46 + 2 = 48 := ⟨by decide +kernel, rfl⟩
theorem dX8_pair_48 : decode cX8_pair 48 = .ok (.invokevirtual 202, 3) := by decide +kernel
theorem dX8_pair_51 : decode cX8_pair 51 = .ok (.aload_n 0, 1) ∧ 51 + 1 = 52 := ⟨by decide +kernel, rfl⟩
theorem dX8_pair_52 : decode cX8_pair 52 = .ok (.iload 5, 2) ∧ 52 + 2 = 54 := ⟨by decide +kernel, rfl⟩
theorem dX8_pair_54 : decode cX8_pair 54 = .ok (.iload 4, 2) ∧ 54 + 2 = 56 := ⟨by decide +kernel, rfl⟩
theorem dX8_pair_56 : decode cX8_pair 56 = .ok (.invokevirtual 202, 3) := by decide +kernel
theorem dX8_pair_59 : decode cX8_pair 59 = .ok (.iadd, 1) ∧ 59 + 1 = 60 := ⟨by decide +kernel, rfl⟩
theorem dX8_pair_60 : decode cX8_pair 60 = .ok (.istore 6, 2) ∧ 60 + 2 = 62 := ⟨by decide +kernel, rfl⟩
theorem dX8_pair_62 : decode cX8_pair 62 = .ok (.iload 6, 2) ∧ 62 + 2 = 64 := ⟨by decide +kernel, rfl⟩
theorem dX8_pair_64 : decode cX8_pair 64 = .ok (.iload_n 3, 1) ∧ 64 + 1 = 65 := ⟨by decide +kernel, rfl⟩
theorem dX8_pair_65 : decode cX8_pair 65 = .ok (.if_icmp .le 14, 3) ∧ 65 + 3 = 68 ∧ ((65 : Nat) : Int) + (14) = ((79 : Nat) : Int) := ⟨by decide +kernel, rfl, by decide⟩
theorem dX8_pair_68 : decode cX8_pair 68 = .ok (.bipush 10, 2) ∧ 68 + 2 = 70 := ⟨by decide +kernel, rfl⟩
theorem dX8_pair_70 : decode cX8_pair 70 = .ok (.iload 4, 2) ∧ 70 + 2 = 72 := ⟨by decide +kernel, rfl⟩
theorem dX8_pair_72 : decode cX8_pair 72 = .ok (.imul, 1) ∧ 72 + 1 = 73 := ⟨by decide +kernel, rfl⟩
theorem dX8_pair_73 : decode cX8_pair 73 = .ok (.iload 5, 2) ∧ 73 + 2 = 75 := ⟨by decide +kernel, rfl⟩
theorem dX8_pair_75 : decode cX8_pair 75 = .ok (.iadd, 1) ∧ 75 + 1 = 76 := ⟨by decide +kernel, rfl⟩
theorem dX8_pair_76 : decode cX8_pair 76 = .ok (.goto 4, 3) ∧ ((76 : Nat) : Int) + (4) = ((80 : Nat) : Int) := ⟨by decide +kernel, by decide⟩
theorem dX8_pair_79 : decode cX8_pair 79 = .ok (.iload_n 2, 1) ∧ 79 + 1 = 80 := ⟨by decide +kernel, rfl⟩
theorem dX8_pair_80 : decode cX8_pair 80 = .ok (.istore_n 2, 1) ∧ 80 + 1 = 81 := ⟨by decide +kernel, rfl⟩
theorem dX8_pair_81 : decode cX8_pair 81 = .ok (.iload 6, 2) ∧ 81 + 2 = 83 := ⟨by decide +kernel, rfl⟩
theorem dX8_pair_83 : decode cX8_pair 83 = .ok (.iload_n 3, 1) ∧ 83 + 1 = 84 := ⟨by decide +kernel, rfl⟩
theorem dX8_pair_84 : decode cX8_pair 84 = .ok (.if_icmp .le 8, 3) ∧ 84 + 3 = 87 ∧ ((84 : Nat) : Int) + (8) = ((92 : Nat) : Int) := ⟨by decide +kernel, rfl, by decide⟩
theorem dX8_pair_87 : decode cX8_pair 87 = .ok (.iload 6, 2) ∧ 87 + 2 = 89 := ⟨by decide +kernel, rfl⟩
theorem dX8_pair_89 : decode cX8_pair 89 = .ok (.goto 4, 3) ∧ ((89 : Nat) : Int) + (4) = ((93 : Nat) : Int) := ⟨by decide +kernel, by decide⟩
theorem dX8_pair_92 : decode cX8_pair 92 = .ok (.iload_n 3, 1) ∧ 92 + 1 = 93 := ⟨by decide +kernel, rfl⟩
theorem dX8_pair_93 : decode cX8_pair 93 = .ok (.istore_n 3, 1) ∧ 93 + 1 = 94 := ⟨by decide +kernel, rfl⟩
theorem dX8_pair_94 : decode cX8_pair 94 = .ok (.iinc 5 1, 3) ∧ 94 + 3 = 97 := ⟨by decide +kernel, rfl⟩
theorem dX8_pair_97 : decode cX8_pair 97 = .ok (.goto (-63), 3) ∧ ((97 : Nat) : Int) + (-63) = ((34 : Nat) : Int) := ⟨by decide +kernel, by decide⟩
theorem dX8_pair_100 : decode cX8_pair 100 = .ok (.iinc 4 1, 3) ∧ 100 + 3 = 103 := ⟨by decide +kernel, rfl⟩
theorem dX8_pair_103 : decode cX8_pair 103 = .ok (.goto (-84), 3) ∧ ((103 : Nat) : Int) + (-84) = ((19 : Nat) : Int) := ⟨by decide +kernel, by decide⟩
theorem dX8_pair_106 : decode cX8_pair 106 = .ok (.iload_n 1, 1) ∧ 106 + 1 = 107 := ⟨by decide +kernel, rfl⟩
theorem dX8_pair_107 : decode cX8_pair 107 = .ok (.ifCond .ne 7, 3) ∧ 107 + 3 = 110 ∧ ((107 : Nat) : Int) + (7) = ((114 : Nat) : Int) := ⟨by decide +kernel, rfl, by decide⟩
theorem dX8_pair_110 : decode cX8_pair 110 = .ok (.iload_n 2, 1) ∧ 110 + 1 = 111 := ⟨by decide +kernel, rfl⟩
theorem dX8_pair_111 : decode cX8_pair 111 = .ok (.goto 4, 3) ∧ ((111 : Nat) : Int) + (4) = ((115 : Nat) : Int) := ⟨by decide +kernel, by decide⟩
theorem dX8_pair_114 : decode cX8_pair 114 = .ok (.iload_n 3, 1) ∧ 114 + 1 = 115 := ⟨by decide +kernel, rfl⟩
theorem dX8_pair_115 : decode cX8_pair 115 = .ok (.ireturn, 1) := by decide +kernel
def B_X8_pair_93 (k19 : Hp → Int32 → Int32 → Int32 → Option (Int32 × Hp)) (k34 : Hp → Int32 → Int32 → Int32 → Option (Int32 × Hp)) (fu : Nat) (o : Nat) (S : Hp) (x1 : Int32) (x2 : Int32) (x4 : Int32) (x5 : Int32) (s0 : Int32) : Option (Int32 × Hp) :=
  k34 S x2 s0 (x5 + (1 : Int32))
set_option maxRecDepth 100000 in
set_option maxHeartbeats 4000000 in
theorem w_X8_pair_93 {E : Cx} {l : Launch} {res : Int32 × Hp} {ad : Nat → Nat} {k19 : Hp → Int32 → Int32 → Int32 → Option (Int32 × Hp)} {k34 : Hp → Int32 → Int32 → Int32 → Option (Int32 × Hp)} {fu : Nat} {o : Nat} {S : Hp} {x1 : Int32} {x2 : Int32} {x4 : Int32} {x5 : Int32} {s0 : Int32} (K : Kx E cX8_pair RX8 (rmd 2 0 0)) (X : Bx E l yX8_pair 7 (some .int) 0 0 ad (QI res)) (hk19 : ∀ (S : Hp) (x2 : Int32) (x3 : Int32) (x4 : Int32), k19 S x2 x3 x4 = some res → J E 0 0 19 [(0, vR (some o)), (1, vI x1), (2, vI x2), (3, vI x3), (4, vI x4)] [] S ad) (hk34 : ∀ (S : Hp) (x2 : Int32) (x3 : Int32) (x5 : Int32), k34 S x2 x3 x5 = some res → J E 0 0 34 [(0, vR (some o)), (1, vI x1), (2, vI x2), (3, vI x3), (4, vI x4), (5, vI x5)] [] S ad) (h : B_X8_pair_93 k19 k34 fu o S x1 x2 x4 x5 s0 = some res) : J E 0 0 93 [(0, vR (some o)), (1, vI x1), (2, vI x2), (4, vI x4), (5, vI x5)] [vI s0] S ad := by
  refine j_istore_n (lv' := [(3, vI s0), (0, vR (some o)), (1, vI x1), (2, vI x2), (4, vI x4), (5, vI x5)]) K dX8_pair_93 rfl X.2.2.1 (by decide) rfl ?_
  refine j_iinc (q := 5) (v := (x5 + (1 : Int32))) (lv' := [(5, vI (x5 + (1 : Int32))), (3, vI s0), (0, vR (some o)), (1, vI x1), (2, vI x2), (4, vI x4)]) K dX8_pair_94 rfl rfl X.2.2.1 (by decide) rfl ?_
  refine j_goto K dX8_pair_97 ?_
  exact j_sub [2, 3, 4, 1, 5, 0] rfl (hk34 _ _ _ _ h)
def B_X8_pair_80 (k19 : Hp → Int32 → Int32 → Int32 → Option (Int32 × Hp)) (k34 : Hp → Int32 → Int32 → Int32 → Option (Int32 × Hp)) (fu : Nat) (o : Nat) (S : Hp) (x1 : Int32) (x3 : Int32) (x4 : Int32) (x5 : Int32) (x6 : Int32) (s0 : Int32) : Option (Int32 × Hp) :=
  if x6 ≤ x3 then
    B_X8_pair_93 k19 k34 fu o S x1 s0 x4 x5 x3
  else
    B_X8_pair_93 k19 k34 fu o S x1 s0 x4 x5 x6
set_option maxRecDepth 100000 in
set_option maxHeartbeats 4000000 in
theorem w_X8_pair_80 {E : Cx} {l : Launch} {res : Int32 × Hp} {ad : Nat → Nat} {k19 : Hp → Int32 → Int32 → Int32 → Option (Int32 × Hp)} {k34 : Hp → Int32 → Int32 → Int32 → Option (Int32 × Hp)} {fu : Nat} {o : Nat} {S : Hp} {x1 : Int32} {x3 : Int32} {x4 : Int32} {x5 : Int32} {x6 : Int32} {s0 : Int32} (K : Kx E cX8_pair RX8 (rmd 2 0 0)) (X : Bx E l yX8_pair 7 (some .int) 0 0 ad (QI res)) (hk19 : ∀ (S : Hp) (x2 : Int32) (x3 : Int32) (x4 : Int32), k19 S x2 x3 x4 = some res → J E 0 0 19 [(0, vR (some o)), (1, vI x1), (2, vI x2), (3, vI x3), (4, vI x4)] [] S ad) (hk34 : ∀ (S : Hp) (x2 : Int32) (x3 : Int32) (x5 : Int32), k34 S x2 x3 x5 = some res → J E 0 0 34 [(0, vR (some o)), (1, vI x1), (2, vI x2), (3, vI x3), (4, vI x4), (5, vI x5)] [] S ad) (h : B_X8_pair_80 k19 k34 fu o S x1 x3 x4 x5 x6 s0 = some res) : J E 0 0 80 [(0, vR (some o)), (1, vI x1), (3, vI x3), (4, vI x4), (5, vI x5), (6, vI x6)] [vI s0] S ad := by
  refine j_istore_n (lv' := [(2, vI s0), (0, vR (some o)), (1, vI x1), (3, vI x3), (4, vI x4), (5, vI x5), (6, vI x6)]) K dX8_pair_80 rfl X.2.2.1 (by decide) rfl ?_
  refine j_iload K dX8_pair_81 6 rfl ?_
  refine j_iload_n K dX8_pair_83 rfl 3 rfl ?_
  refine j_icmp_le K dX8_pair_84 (fun c84 => ?_) (fun c84 => ?_)
  · replace h := it c84 h
    refine j_iload_n K dX8_pair_92 rfl 3 rfl ?_
    exact j_sub [1, 2, 0, 4, 5] rfl (w_X8_pair_93 K X hk19 hk34 h)
  · replace h := ie c84 h
    refine j_iload K dX8_pair_87 6 rfl ?_
    refine j_goto K dX8_pair_89 ?_
    exact j_sub [1, 2, 0, 4, 5] rfl (w_X8_pair_93 K X hk19 hk34 h)
def L_X8_pair_34 (k19 : Hp → Int32 → Int32 → Int32 → Option (Int32 × Hp)) (k34 : Hp → Int32 → Int32 → Int32 → Option (Int32 × Hp)) (fu : Nat) (o : Nat) (x1 : Int32) (x4 : Int32) (S : Hp) (x2 : Int32) (x3 : Int32) (x5 : Int32) : Option (Int32 × Hp) :=
  (gI S (some o) 6 0).bind fun v37 =>
  if v37 ≤ x5 then
    k19 S x2 x3 (x4 + (1 : Int32))
  else
    (ob S 6 (some o)).bind fun _ =>
    b2 (F_X8_sawOf fu S o x4 x5) fun v48 S48 =>
    (ob S48 6 (some o)).bind fun _ =>
    b2 (F_X8_sawOf fu S48 o x5 x4) fun v56 S56 =>
    if (v48 + v56) ≤ x3 then
      B_X8_pair_80 k19 k34 fu o S56 x1 x3 x4 x5 (v48 + v56) x2
    else
      B_X8_pair_80 k19 k34 fu o S56 x1 x3 x4 x5 (v48 + v56) (((10 : Int32) * x4) + x5)
set_option maxRecDepth 100000 in
set_option maxHeartbeats 4000000 in
theorem wl_X8_pair_34 {E : Cx} {l : Launch} {res : Int32 × Hp} {ad : Nat → Nat} {k19 : Hp → Int32 → Int32 → Int32 → Option (Int32 × Hp)} {k34 : Hp → Int32 → Int32 → Int32 → Option (Int32 × Hp)} {fu : Nat} {o : Nat} {S : Hp} {x1 : Int32} {x2 : Int32} {x3 : Int32} {x4 : Int32} {x5 : Int32} (K : Kx E cX8_pair RX8 (rmd 2 0 0)) (X : Bx E l yX8_pair 7 (some .int) 0 0 ad (QI res)) (hk19 : ∀ (S : Hp) (x2 : Int32) (x3 : Int32) (x4 : Int32), k19 S x2 x3 x4 = some res → J E 0 0 19 [(0, vR (some o)), (1, vI x1), (2, vI x2), (3, vI x3), (4, vI x4)] [] S ad) (hk34 : ∀ (S : Hp) (x2 : Int32) (x3 : Int32) (x5 : Int32), k34 S x2 x3 x5 = some res → J E 0 0 34 [(0, vR (some o)), (1, vI x1), (2, vI x2), (3, vI x3), (4, vI x4), (5, vI x5)] [] S ad) (h : L_X8_pair_34 k19 k34 fu o x1 x4 S x2 x3 x5 = some res) : J E 0 0 34 [(0, vR (some o)), (1, vI x1), (2, vI x2), (3, vI x3), (4, vI x4), (5, vI x5)] [] S ad := by
  refine j_iload K dX8_pair_34 5 rfl ?_
  refine j_aload_n K dX8_pair_36 rfl 0 rfl ?_
  obtain ⟨v37, e37, h⟩ := bd h
  refine fgX8_84 K dX8_pair_37 e37 ?_
  refine j_icmp_ge K dX8_pair_40 (fun c40 => ?_) (fun c40 => ?_)
  · replace h := it c40 h
    refine j_iinc (q := 4) (v := (x4 + (1 : Int32))) (lv' := [(4, vI (x4 + (1 : Int32))), (0, vR (some o)), (1, vI x1), (2, vI x2), (3, vI x3), (5, vI x5)]) K dX8_pair_100 rfl rfl X.2.2.1 (by decide) rfl ?_
    refine j_goto K dX8_pair_103 ?_
    exact j_sub [1, 2, 3, 4, 0] rfl (hk19 _ _ _ _ h)
  · replace h := ie c40 h
    refine j_aload_n K dX8_pair_43 rfl 0 rfl ?_
    refine j_iload K dX8_pair_44 4 rfl ?_
    refine j_iload K dX8_pair_46 5 rfl ?_
    obtain ⟨w48, ew48, h⟩ := bd h
    have ho48 := obS ew48
    obtain ⟨v48, S48, e48, h⟩ := bd2 h
    refine j_cI (st := []) K (r_V (vs := [vI x4, vI x5]) (n := 2) (o := o) K (c_X8_sawOf e48) ho48 (by decide) rfl dX8_pair_48 z1064 z1066 zs44 z13 z1067 ⟨zd_X8_sawOf, rfl, rfl, rfl, ⟨Nat.le_of_ble_eq_true rfl, Nat.le_of_ble_eq_true rfl⟩, Nat.le_of_ble_eq_true rfl, Nat.le_of_ble_eq_true rfl, Nat.le_of_ble_eq_true rfl⟩) rfl ?_
    refine j_aload_n K dX8_pair_51 rfl 0 rfl ?_
    refine j_iload K dX8_pair_52 5 rfl ?_
    refine j_iload K dX8_pair_54 4 rfl ?_
    obtain ⟨w56, ew56, h⟩ := bd h
    have ho56 := obS ew56
    obtain ⟨v56, S56, e56, h⟩ := bd2 h
    refine j_cI (st := [vI v48]) K (r_V (vs := [vI x5, vI x4]) (n := 2) (o := o) K (c_X8_sawOf e56) ho56 (by decide) rfl dX8_pair_56 z1064 z1066 zs44 z13 z1067 ⟨zd_X8_sawOf, rfl, rfl, rfl, ⟨Nat.le_of_ble_eq_true rfl, Nat.le_of_ble_eq_true rfl⟩, Nat.le_of_ble_eq_true rfl, Nat.le_of_ble_eq_true rfl, Nat.le_of_ble_eq_true rfl⟩) rfl ?_
    refine j_iadd K dX8_pair_59 ?_
    refine j_istore (lv' := [(6, vI (v48 + v56)), (0, vR (some o)), (1, vI x1), (2, vI x2), (3, vI x3), (4, vI x4), (5, vI x5)]) K dX8_pair_60 X.2.2.1 (by decide) rfl ?_
    refine j_iload K dX8_pair_62 0 rfl ?_
    refine j_iload_n K dX8_pair_64 rfl 4 rfl ?_
    refine j_icmp_le K dX8_pair_65 (fun c65 => ?_) (fun c65 => ?_)
    · replace h := it c65 h
      refine j_iload_n K dX8_pair_79 rfl 3 rfl ?_
      exact j_sub [1, 2, 4, 5, 6, 0] rfl (w_X8_pair_80 K X hk19 hk34 h)
    · replace h := ie c65 h
      refine j_bipush (v := (10 : Int32)) K dX8_pair_68 (by decide) ?_
      refine j_iload K dX8_pair_70 5 rfl ?_
      refine j_imul K dX8_pair_72 ?_
      refine j_iload K dX8_pair_73 6 rfl ?_
      refine j_iadd K dX8_pair_75 ?_
      refine j_goto K dX8_pair_76 ?_
      exact j_sub [1, 2, 4, 5, 6, 0] rfl (w_X8_pair_80 K X hk19 hk34 h)
def B_X8_pair_34 (k19 : Hp → Int32 → Int32 → Int32 → Option (Int32 × Hp)) (fu : Nat) (o : Nat) (x1 : Int32) (x4 : Int32) : Nat → Hp → Int32 → Int32 → Int32 → Option (Int32 × Hp)
  | 0 => fun _ _ _ _ => none
  | n + 1 => L_X8_pair_34 k19 (B_X8_pair_34 k19 fu o x1 x4 n) fu o x1 x4
theorem w_X8_pair_34 {E : Cx} {l : Launch} {res : Int32 × Hp} {ad : Nat → Nat} {k19 : Hp → Int32 → Int32 → Int32 → Option (Int32 × Hp)} {fu : Nat} {o : Nat} {x1 : Int32} {x4 : Int32} (K : Kx E cX8_pair RX8 (rmd 2 0 0)) (X : Bx E l yX8_pair 7 (some .int) 0 0 ad (QI res)) (hk19 : ∀ (S : Hp) (x2 : Int32) (x3 : Int32) (x4 : Int32), k19 S x2 x3 x4 = some res → J E 0 0 19 [(0, vR (some o)), (1, vI x1), (2, vI x2), (3, vI x3), (4, vI x4)] [] S ad) : ∀ (n : Nat) (S : Hp) (x2 : Int32) (x3 : Int32) (x5 : Int32), B_X8_pair_34 k19 fu o x1 x4 n S x2 x3 x5 = some res → J E 0 0 34 [(0, vR (some o)), (1, vI x1), (2, vI x2), (3, vI x3), (4, vI x4), (5, vI x5)] [] S ad := by
  intro n
  induction n with
  | zero =>
    intro S x2 x3 x5 h
    cases h
  | succ n ih =>
    intro S x2 x3 x5 h
    exact wl_X8_pair_34 K X hk19 ih h
def B_X8_pair_115 (fu : Nat) (o : Nat) (S : Hp) (s0 : Int32) : Option (Int32 × Hp) :=
  some (s0, S)
set_option maxRecDepth 100000 in
set_option maxHeartbeats 4000000 in
theorem w_X8_pair_115 {E : Cx} {l : Launch} {res : Int32 × Hp} {ad : Nat → Nat} {fu : Nat} {o : Nat} {S : Hp} {s0 : Int32} (K : Kx E cX8_pair RX8 (rmd 2 0 0)) (X : Bx E l yX8_pair 7 (some .int) 0 0 ad (QI res)) (h : B_X8_pair_115 fu o S s0 = some res) : J E 0 0 115 [] [vI s0] S ad := by
  exact j_iret K X dX8_pair_115 h
def L_X8_pair_19 (k19 : Hp → Int32 → Int32 → Int32 → Option (Int32 × Hp)) (fu : Nat) (o : Nat) (x1 : Int32) (S : Hp) (x2 : Int32) (x3 : Int32) (x4 : Int32) : Option (Int32 × Hp) :=
  (gI S (some o) 6 0).bind fun v22 =>
  if v22 ≤ x4 then
    if x1 = 0 then
      B_X8_pair_115 fu o S x2
    else
      B_X8_pair_115 fu o S x3
  else
    B_X8_pair_34 k19 fu o x1 x4 fu S x2 x3 (x4 + (1 : Int32))
set_option maxRecDepth 100000 in
set_option maxHeartbeats 4000000 in
theorem wl_X8_pair_19 {E : Cx} {l : Launch} {res : Int32 × Hp} {ad : Nat → Nat} {k19 : Hp → Int32 → Int32 → Int32 → Option (Int32 × Hp)} {fu : Nat} {o : Nat} {S : Hp} {x1 : Int32} {x2 : Int32} {x3 : Int32} {x4 : Int32} (K : Kx E cX8_pair RX8 (rmd 2 0 0)) (X : Bx E l yX8_pair 7 (some .int) 0 0 ad (QI res)) (hk19 : ∀ (S : Hp) (x2 : Int32) (x3 : Int32) (x4 : Int32), k19 S x2 x3 x4 = some res → J E 0 0 19 [(0, vR (some o)), (1, vI x1), (2, vI x2), (3, vI x3), (4, vI x4)] [] S ad) (h : L_X8_pair_19 k19 fu o x1 S x2 x3 x4 = some res) : J E 0 0 19 [(0, vR (some o)), (1, vI x1), (2, vI x2), (3, vI x3), (4, vI x4)] [] S ad := by
  refine j_iload K dX8_pair_19 4 rfl ?_
  refine j_aload_n K dX8_pair_21 rfl 0 rfl ?_
  obtain ⟨v22, e22, h⟩ := bd h
  refine fgX8_84 K dX8_pair_22 e22 ?_
  refine j_icmp_ge K dX8_pair_25 (fun c25 => ?_) (fun c25 => ?_)
  · replace h := it c25 h
    refine j_iload_n K dX8_pair_106 rfl 1 rfl ?_
    refine j_if_ne K dX8_pair_107 (fun c107 => ?_) (fun c107 => ?_)
    · replace h := ie c107 h
      refine j_iload_n K dX8_pair_114 rfl 3 rfl ?_
      exact j_sub [] rfl (w_X8_pair_115 K X h)
    · replace h := it c107 h
      refine j_iload_n K dX8_pair_110 rfl 2 rfl ?_
      refine j_goto K dX8_pair_111 ?_
      exact j_sub [] rfl (w_X8_pair_115 K X h)
  · replace h := ie c25 h
    refine j_iload K dX8_pair_28 4 rfl ?_
    refine j_iconst (v := (1 : Int32)) K dX8_pair_30 (by decide) ?_
    refine j_iadd K dX8_pair_31 ?_
    refine j_istore (lv' := [(5, vI (x4 + (1 : Int32))), (0, vR (some o)), (1, vI x1), (2, vI x2), (3, vI x3), (4, vI x4)]) K dX8_pair_32 X.2.2.1 (by decide) rfl ?_
    exact j_sub [1, 2, 3, 4, 5, 0] rfl (w_X8_pair_34 K X hk19 _ _ _ _ _ h)
def B_X8_pair_19 (fu : Nat) (o : Nat) (x1 : Int32) : Nat → Hp → Int32 → Int32 → Int32 → Option (Int32 × Hp)
  | 0 => fun _ _ _ _ => none
  | n + 1 => L_X8_pair_19 (B_X8_pair_19 fu o x1 n) fu o x1
theorem w_X8_pair_19 {E : Cx} {l : Launch} {res : Int32 × Hp} {ad : Nat → Nat} {fu : Nat} {o : Nat} {x1 : Int32} (K : Kx E cX8_pair RX8 (rmd 2 0 0)) (X : Bx E l yX8_pair 7 (some .int) 0 0 ad (QI res)) : ∀ (n : Nat) (S : Hp) (x2 : Int32) (x3 : Int32) (x4 : Int32), B_X8_pair_19 fu o x1 n S x2 x3 x4 = some res → J E 0 0 19 [(0, vR (some o)), (1, vI x1), (2, vI x2), (3, vI x3), (4, vI x4)] [] S ad := by
  intro n
  induction n with
  | zero =>
    intro S x2 x3 x4 h
    cases h
  | succ n ih =>
    intro S x2 x3 x4 h
    exact wl_X8_pair_19 K X ih h
def F_X8_pair (fu : Nat) (S : Hp) (o : Nat) (x1 : Int32) : Option (Int32 × Hp) :=
  b2 (F_X8_in S x1 (0 : Int32) (1 : Int32)) fun v3 S3 =>
  if v3 = 0 then
    some ((-2 : Int32), S3)
  else
    B_X8_pair_19 fu o x1 fu S3 (-1 : Int32) (-1 : Int32) (0 : Int32)
set_option maxRecDepth 100000 in
set_option maxHeartbeats 4000000 in
theorem w_X8_pair {E : Cx} {l : Launch} {res : Int32 × Hp} {ad : Nat → Nat} {fu : Nat} {S : Hp} {o : Nat} {x1 : Int32} (K : Kx E cX8_pair RX8 (rmd 2 0 0)) (X : Bx E l yX8_pair 7 (some .int) 0 0 ad (QI res)) (h : F_X8_pair fu S o x1 = some res) : J E 0 0 0 [(0, vR (some o)), (1, vI x1)] [] S ad := by
  refine j_iload_n K dX8_pair_0 rfl 1 rfl ?_
  refine j_iconst (v := (0 : Int32)) K dX8_pair_1 (by decide) ?_
  refine j_iconst (v := (1 : Int32)) K dX8_pair_2 (by decide) ?_
  obtain ⟨v3, S3, e3, h⟩ := bd2 h
  refine j_cI (st := []) K (r_S (vs := [vI x1, vI (0 : Int32), vI (1 : Int32)]) (n := 3) K (c_X8_in e3) dX8_pair_3 z812 z813 z13 z814 ⟨zd_X8_in, rfl, rfl, rfl, ⟨Nat.le_of_ble_eq_true rfl, Nat.le_of_ble_eq_true rfl⟩, Nat.le_of_ble_eq_true rfl, Nat.le_of_ble_eq_true rfl, Nat.le_of_ble_eq_true rfl⟩) rfl ?_
  refine j_if_ne K dX8_pair_6 (fun c6 => ?_) (fun c6 => ?_)
  · replace h := ie c6 h
    refine j_iconst (v := (-1 : Int32)) K dX8_pair_12 (by decide) ?_
    refine j_istore_n (lv' := [(2, vI (-1 : Int32)), (0, vR (some o)), (1, vI x1)]) K dX8_pair_13 rfl X.2.2.1 (by decide) rfl ?_
    refine j_iconst (v := (-1 : Int32)) K dX8_pair_14 (by decide) ?_
    refine j_istore_n (lv' := [(3, vI (-1 : Int32)), (2, vI (-1 : Int32)), (0, vR (some o)), (1, vI x1)]) K dX8_pair_15 rfl X.2.2.1 (by decide) rfl ?_
    refine j_iconst (v := (0 : Int32)) K dX8_pair_16 (by decide) ?_
    refine j_istore (lv' := [(4, vI (0 : Int32)), (3, vI (-1 : Int32)), (2, vI (-1 : Int32)), (0, vR (some o)), (1, vI x1)]) K dX8_pair_17 X.2.2.1 (by decide) rfl ?_
    exact j_sub [3, 4, 2, 1, 0] rfl (w_X8_pair_19 K X _ _ _ _ _ h)
  · replace h := it c6 h
    refine j_bipush (v := (-2 : Int32)) K dX8_pair_9 (by decide) ?_
    exact j_iret K X dX8_pair_11 h
theorem c_X8_pair {l : Launch} {fu : Nat} {S : Hp} {o : Nat} {x1 : Int32} {res : Int32 × Hp} (h : F_X8_pair fu S o x1 = some res) : Ct l yX8_pair cX8_pair 7 (some .int) (rmd 2 0 0) 0 0 [vR (some o), vI x1] S (QI res) :=
  z_entry (by decide +kernel) (Nat.le_of_ble_eq_true rfl) (fun E ad K X => w_X8_pair K X h)

theorem dX8_guess_0 : decode cX8_guess 0 = .ok (.aload_n 0, 1) ∧ 0 + 1 = 1 := ⟨by decide +kernel, rfl⟩
theorem dX8_guess_1 : decode cX8_guess 1 = .ok (.iload_n 1, 1) ∧ 1 + 1 = 2 := ⟨by decide +kernel, rfl⟩
theorem dX8_guess_2 : decode cX8_guess 2 = .ok (.invokevirtual 182, 3) := by decide +kernel
theorem dX8_guess_5 : decode cX8_guess 5 = .ok (.ifCond .ne 6, 3) ∧ 5 + 3 = 8 ∧ ((5 : Nat) : Int) + (6) = ((11 : Nat) : Int) := ⟨by decide +kernel, rfl, by decide⟩
theorem dX8_guess_8 : decode cX8_guess 8 = .ok (.bipush (-5), 2) ∧ 8 + 2 = 10 := ⟨by decide +kernel, rfl⟩
theorem dX8_guess_10 : decode cX8_guess 10 = .ok (.ireturn, 1) := by decide +kernel
theorem dX8_guess_11 : decode cX8_guess 11 = .ok (.iload_n 2, 1) ∧ 11 + 1 = 12 := ⟨by decide +kernel, rfl⟩
theorem dX8_guess_12 : decode cX8_guess 12 = .ok (.iconst 0, 1) ∧ 12 + 1 = 13 := ⟨by decide +kernel, rfl⟩
theorem dX8_guess_13 : decode cX8_guess 13 = .ok (.sipush 999, 3) ∧ 13 + 3 = 16 := ⟨by decide +kernel, rfl⟩
theorem dX8_guess_16 : decode cX8_guess 16 = .ok (.invokestatic 87, 3) := by decide +kernel
theorem dX8_guess_19 : decode cX8_guess 19 = .ok (.ifCond .eq 12, 3) ∧ 19 + 3 = 22 ∧ ((19 : Nat) : Int) + (12) = ((31 : Nat) : Int) := ⟨by decide +kernel, rfl, by decide⟩
theorem dX8_guess_22 : decode cX8_guess 22 = .ok (.iload_n 3, 1) ∧ 22 + 1 = 23 := ⟨by decide +kernel, rfl⟩
theorem dX8_guess_23 : decode cX8_guess 23 = .ok (.iconst 0, 1) ∧ 23 + 1 = 24 := ⟨by decide +kernel, rfl⟩
theorem dX8_guess_24 : decode cX8_guess 24 = .ok (.iconst 1, 1) ∧ 24 + 1 = 25 := ⟨by decide +kernel, rfl⟩
theorem dX8_guess_25 : decode cX8_guess 25 = .ok (.invokestatic 87, 3) := by decide +kernel
theorem dX8_guess_28 : decode cX8_guess 28 = .ok (.ifCond .ne 6, 3) ∧ 28 + 3 = 31 ∧ ((28 : Nat) : Int) + (6) = ((34 : Nat) : Int) := ⟨by decide +kernel, rfl, by decide⟩
theorem dX8_guess_31 : decode cX8_guess 31 = .ok (.bipush (-7), 2) ∧ 31 + 2 = 33 := ⟨by decide +kernel, rfl⟩
theorem dX8_guess_33 : decode cX8_guess 33 = .ok (.ireturn, 1) := by decide +kernel
theorem dX8_guess_34 : decode cX8_guess 34 = .ok (.aload_n 0, 1) ∧ 34 + 1 = 35 := ⟨by decide +kernel, rfl⟩
theorem dX8_guess_35 : decode cX8_guess 35 = .ok (.iload_n 1, 1) ∧ 35 + 1 = 36 := ⟨by decide +kernel, rfl⟩
theorem dX8_guess_36 : decode cX8_guess 36 = .ok (.invokevirtual 226, 3) := by decide +kernel
theorem dX8_guess_39 : decode cX8_guess 39 = .ok (.iconst 0, 1) ∧ 39 + 1 = 40 := ⟨by decide +kernel, rfl⟩
theorem dX8_guess_40 : decode cX8_guess 40 = .ok (.istore 4, 2) ∧ 40 + 2 = 42 := ⟨by decide +kernel, rfl⟩
theorem dX8_guess_42 : decode cX8_guess 42 = .ok (.iconst (-1), 1) ∧ 42 + 1 = 43 := ⟨by decide +kernel, rfl⟩
theorem dX8_guess_43 : decode cX8_guess 43 = .ok (.istore 5, 2) ∧ 43 + 2 = 45 := ⟨by decide +kernel, rfl⟩
theorem dX8_guess_45 : decode cX8_guess 45 = .ok (.iconst 0, 1) ∧ 45 + 1 = 46 := ⟨by decide +kernel, rfl⟩
theorem dX8_guess_46 : decode cX8_guess 46 = .ok (.istore 6, 2) ∧ 46 + 2 = 48 := ⟨by decide +kernel, rfl⟩
theorem dX8_guess_48 : decode cX8_guess 48 = .ok (.iload 6, 2) ∧ 48 + 2 = 50 := ⟨by decide +kernel, rfl⟩
theorem dX8_guess_50 : decode cX8_guess 50 = .ok (.iconst 1, 1) ∧ 50 + 1 = 51 := ⟨by decide +kernel, rfl⟩
theorem dX8_guess_51 : decode cX8_guess 51 = .ok (.aload_n 0, 1) ∧ 51 + 1 = 52 := ⟨by decide +kernel, rfl⟩
theorem dX8_guess_52 : decode cX8_guess 52 = .ok (.getfield 91, 3) ∧ 52 + 3 = 55 := ⟨by decide +kernel, rfl⟩
theorem dX8_guess_55 : decode cX8_guess 55 = .ok (.ishl, 1) ∧ 55 + 1 = 56 := ⟨by decide +kernel, rfl⟩
theorem dX8_guess_56 : decode cX8_guess 56 = .ok (.if_icmp .ge 61, 3) ∧ 56 + 3 = 59 ∧ ((56 : Nat) : Int) + (61) = ((117 : Nat) : Int) := ⟨by decide +kernel, rfl, by decide⟩
theorem dX8_guess_59 : decode cX8_guess 59 = .ok (.aload_n 0, 1) ∧ 59 + 1 = 60 := ⟨by decide +kernel, rfl⟩
theorem dX8_guess_60 : decode cX8_guess 60 = .ok (.iload 6, 2) ∧ 60 + 2 = 62 := ⟨by decide +kernel, rfl⟩
theorem dX8_guess_62 : decode cX8_guess 62 = .ok (.invokevirtual 232, 3) := by decide +kernel
theorem dX8_guess_65 : decode cX8_guess 65 = .ok (.iload_n 2, 1) ∧ 65 + 1 = 66 := ⟨by decide +kernel, rfl⟩
theorem dX8_guess_66 : decode cX8_guess 66 = .ok (.if_icmp .ne 7, 3) ∧ 66 + 3 = 69 ∧ ((66 : Nat) : Int) + (7) = ((73 : Nat) : Int) := ⟨by decide +kernel, rfl, by decide⟩
theorem dX8_guess_69 : decode cX8_guess 69 = .ok (.iconst 1, 1) ∧ 69 + 1 = 70 := ⟨by decide +kernel, rfl⟩
theorem dX8_guess_70 : decode cX8_guess 70 = .ok (.goto 4, 3) ∧ ((70 : Nat) : Int) + (4) = ((74 : Nat) : Int) := ⟨by decide +kernel, by decide⟩
theorem dX8_guess_73 : decode cX8_guess 73 = .ok (.iconst 0, 1) ∧ 73 + 1 = 74 := ⟨by decide +kernel, rfl⟩
theorem dX8_guess_74 : decode cX8_guess 74 = .ok (.istore 7, 2) ∧ 74 + 2 = 76 := ⟨by decide +kernel, rfl⟩
theorem dX8_guess_76 : decode cX8_guess 76 = .ok (.iload 4, 2) ∧ 76 + 2 = 78 := ⟨by decide +kernel, rfl⟩
theorem dX8_guess_78 : decode cX8_guess 78 = .ok (.iload 7, 2) ∧ 78 + 2 = 80 := ⟨by decide +kernel, rfl⟩
theorem dX8_guess_80 : decode cX8_guess 80 = .ok (.ifCond .eq 7, 3) ∧ 80 + 3 = 83 ∧ ((80 : Nat) : Int) + (7) = ((87 : Nat) : Int) := ⟨by decide +kernel, rfl, by decide⟩
theorem dX8_guess_83 : decode cX8_guess 83 = .ok (.iconst 1, 1) ∧ 83 + 1 = 84 := ⟨by decide +kernel, rfl⟩
theorem dX8_guess_84 : decode cX8_guess 84 = .ok (.goto 4, 3) ∧ ((84 : Nat) : Int) + (4) = ((88 : Nat) : Int) := ⟨by decide +kernel, by decide⟩
theorem dX8_guess_87 : decode cX8_guess 87 = .ok (.iconst 0, 1) ∧ 87 + 1 = 88 := ⟨by decide +kernel, rfl⟩
theorem dX8_guess_88 : decode cX8_guess 88 = .ok (.iadd, 1) ∧ 88 + 1 = 89 := ⟨by decide +kernel, rfl⟩
theorem dX8_guess_89 : decode cX8_guess 89 = .ok (.istore 4, 2) ∧ 89 + 2 = 91 := ⟨by decide +kernel, rfl⟩
theorem dX8_guess_91 : decode cX8_guess 91 = .ok (.iload 7, 2) ∧ 91 + 2 = 93 := ⟨by decide +kernel, rfl⟩
theorem dX8_guess_93 : decode cX8_guess 93 = .ok (.ifCond .eq 14, 3) ∧ 93 + 3 = 96 ∧ ((93 : Nat) : Int) + (14) = ((107 : Nat) : Int) := ⟨by decide +kernel, rfl, by decide⟩
theorem dX8_guess_96 : decode cX8_guess 96 = .ok (.iload 5, 2) ∧ 96 + 2 = 98 := ⟨by decide +kernel, rfl⟩
theorem dX8_guess_98 : decode cX8_guess 98 = .ok (.iconst (-1), 1) ∧ 98 + 1 = 99 := ⟨by decide +kernel, rfl⟩
theorem dX8_guess_99 : decode cX8_guess 99 = .ok (.if_icmp .ne 8, 3) ∧ 99 + 3 = 102 ∧ ((99 : Nat) : Int) + (8) = ((107 : Nat) : Int) := ⟨by decide +kernel, rfl, by decide⟩
theorem dX8_guess_102 : decode cX8_guess 102 = .ok (.iload 6, 2) ∧ 102 + 2 = 104 := ⟨by decide +kernel, rfl⟩
theorem dX8_guess_104 : decode cX8_guess 104 = .ok (.goto 5, 3) ∧ ((104 : Nat) : Int) + (5) = ((109 : Nat) : Int) := ⟨by decide +kernel, by decide⟩
theorem dX8_guess_107 : decode cX8_guess 107 = .ok (.iload 5, 2) ∧ 107 + 2 = 109 := ⟨by decide +kernel, rfl⟩
theorem dX8_guess_109 : decode cX8_guess 109 = .ok (.istore 5, 2) ∧ 109 + 2 = 111 := ⟨by decide +kernel, rfl⟩
theorem dX8_guess_111 : decode cX8_guess 111 = .ok (.iinc 6 1, 3) ∧ 111 + 3 = 114 := ⟨by decide +kernel, rfl⟩
theorem dX8_guess_114 : decode cX8_guess 114 = .ok (.goto (-66), 3) ∧ ((114 : Nat) : Int) + (-66) = ((48 : Nat) : Int) := ⟨by decide +kernel, by decide⟩
theorem dX8_guess_117 : decode cX8_guess 117 = .ok (.iload_n 3, 1) ∧ 117 + 1 = 118 := ⟨by decide +kernel, rfl⟩
theorem dX8_guess_118 : decode cX8_guess 118 = .ok (.ifCond .ne 8, 3) ∧ 118 + 3 = 121 ∧ ((118 : Nat) : Int) + (8) = ((126 : Nat) : Int) := ⟨by decide +kernel, rfl, by decide⟩
theorem dX8_guess_121 : decode cX8_guess 121 = .ok (.iload 4, 2) ∧ 121 + 2 = 123 := ⟨by decide +kernel, rfl⟩
theorem dX8_guess_123 : decode cX8_guess 123 = .ok (.goto 5, 3) ∧ ((123 : Nat) : Int) + (5) = ((128 : Nat) : Int) := ⟨by decide +kernel, by decide⟩
theorem dX8_guess_126 : decode cX8_guess 126 = .ok (.iload 5, 2) ∧ 126 + 2 = 128 := ⟨by decide +kernel, rfl⟩
theorem dX8_guess_128 : decode cX8_guess 128 = .ok (.ireturn, 1) := by decide +kernel
def B_X8_guess_31 (fu : Nat) (o : Nat) (S : Hp) : Option (Int32 × Hp) :=
  some ((-7 : Int32), S)
set_option maxRecDepth 100000 in
set_option maxHeartbeats 4000000 in
theorem w_X8_guess_31 {E : Cx} {l : Launch} {res : Int32 × Hp} {ad : Nat → Nat} {fu : Nat} {o : Nat} {S : Hp} (K : Kx E cX8_guess RX8 (rmd 5 0 0)) (X : Bx E l yX8_guess 8 (some .int) 0 0 ad (QI res)) (h : B_X8_guess_31 fu o S = some res) : J E 0 0 31 [] [] S ad := by
  refine j_bipush (v := (-7 : Int32)) K dX8_guess_31 (by decide) ?_
  exact j_iret K X dX8_guess_33 h
def B_X8_guess_109 (k48 : Hp → Int32 → Int32 → Int32 → Option (Int32 × Hp)) (fu : Nat) (o : Nat) (S : Hp) (x2 : Int32) (x3 : Int32) (x4 : Int32) (x6 : Int32) (s0 : Int32) : Option (Int32 × Hp) :=
  k48 S x4 s0 (x6 + (1 : Int32))
set_option maxRecDepth 100000 in
set_option maxHeartbeats 4000000 in
theorem w_X8_guess_109 {E : Cx} {l : Launch} {res : Int32 × Hp} {ad : Nat → Nat} {k48 : Hp → Int32 → Int32 → Int32 → Option (Int32 × Hp)} {fu : Nat} {o : Nat} {S : Hp} {x2 : Int32} {x3 : Int32} {x4 : Int32} {x6 : Int32} {s0 : Int32} (K : Kx E cX8_guess RX8 (rmd 5 0 0)) (X : Bx E l yX8_guess 8 (some .int) 0 0 ad (QI res)) (hk48 : ∀ (S : Hp) (x4 : Int32) (x5 : Int32) (x6 : Int32), k48 S x4 x5 x6 = some res → J E 0 0 48 [(0, vR (some o)), (2, vI x2), (3, vI x3), (4, vI x4), (5, vI x5), (6, vI x6)] [] S ad) (h : B_X8_guess_109 k48 fu o S x2 x3 x4 x6 s0 = some res) : J E 0 0 109 [(0, vR (some o)), (2, vI x2), (3, vI x3), (4, vI x4), (6, vI x6)] [vI s0] S ad := by
  refine j_istore (lv' := [(5, vI s0), (0, vR (some o)), (2, vI x2), (3, vI x3), (4, vI x4), (6, vI x6)]) K dX8_guess_109 X.2.2.1 (by decide) rfl ?_
  refine j_iinc (q := 5) (v := (x6 + (1 : Int32))) (lv' := [(6, vI (x6 + (1 : Int32))), (5, vI s0), (0, vR (some o)), (2, vI x2), (3, vI x3), (4, vI x4)]) K dX8_guess_111 rfl rfl X.2.2.1 (by decide) rfl ?_
  refine j_goto K dX8_guess_114 ?_
  exact j_sub [2, 3, 4, 5, 1, 0] rfl (hk48 _ _ _ _ h)
def B_X8_guess_107 (k48 : Hp → Int32 → Int32 → Int32 → Option (Int32 × Hp)) (fu : Nat) (o : Nat) (S : Hp) (x2 : Int32) (x3 : Int32) (x4 : Int32) (x5 : Int32) (x6 : Int32) : Option (Int32 × Hp) :=
  B_X8_guess_109 k48 fu o S x2 x3 x4 x6 x5
set_option maxRecDepth 100000 in
set_option maxHeartbeats 4000000 in
theorem w_X8_guess_107 {E : Cx} {l : Launch} {res : Int32 × Hp} {ad : Nat → Nat} {k48 : Hp → Int32 → Int32 → Int32 → Option (Int32 × Hp)} {fu : Nat} {o : Nat} {S : Hp} {x2 : Int32} {x3 : Int32} {x4 : Int32} {x5 : Int32} {x6 : Int32} (K : Kx E cX8_guess RX8 (rmd 5 0 0)) (X : Bx E l yX8_guess 8 (some .int) 0 0 ad (QI res)) (hk48 : ∀ (S : Hp) (x4 : Int32) (x5 : Int32) (x6 : Int32), k48 S x4 x5 x6 = some res → J E 0 0 48 [(0, vR (some o)), (2, vI x2), (3, vI x3), (4, vI x4), (5, vI x5), (6, vI x6)] [] S ad) (h : B_X8_guess_107 k48 fu o S x2 x3 x4 x5 x6 = some res) : J E 0 0 107 [(0, vR (some o)), (2, vI x2), (3, vI x3), (4, vI x4), (5, vI x5), (6, vI x6)] [] S ad := by
  refine j_iload K dX8_guess_107 4 rfl ?_
  exact j_sub [0, 1, 2, 3, 5] rfl (w_X8_guess_109 K X hk48 h)
def B_X8_guess_88 (k48 : Hp → Int32 → Int32 → Int32 → Option (Int32 × Hp)) (fu : Nat) (o : Nat) (S : Hp) (x2 : Int32) (x3 : Int32) (x5 : Int32) (x6 : Int32) (x7 : Int32) (s0 : Int32) (s1 : Int32) : Option (Int32 × Hp) :=
  if x7 = 0 then
    B_X8_guess_107 k48 fu o S x2 x3 (s1 + s0) x5 x6
  else
    if x5 = (-1 : Int32) then
      B_X8_guess_109 k48 fu o S x2 x3 (s1 + s0) x6 x6
    else
      B_X8_guess_107 k48 fu o S x2 x3 (s1 + s0) x5 x6
set_option maxRecDepth 100000 in
set_option maxHeartbeats 4000000 in
theorem w_X8_guess_88 {E : Cx} {l : Launch} {res : Int32 × Hp} {ad : Nat → Nat} {k48 : Hp → Int32 → Int32 → Int32 → Option (Int32 × Hp)} {fu : Nat} {o : Nat} {S : Hp} {x2 : Int32} {x3 : Int32} {x5 : Int32} {x6 : Int32} {x7 : Int32} {s0 : Int32} {s1 : Int32} (K : Kx E cX8_guess RX8 (rmd 5 0 0)) (X : Bx E l yX8_guess 8 (some .int) 0 0 ad (QI res)) (hk48 : ∀ (S : Hp) (x4 : Int32) (x5 : Int32) (x6 : Int32), k48 S x4 x5 x6 = some res → J E 0 0 48 [(0, vR (some o)), (2, vI x2), (3, vI x3), (4, vI x4), (5, vI x5), (6, vI x6)] [] S ad) (h : B_X8_guess_88 k48 fu o S x2 x3 x5 x6 x7 s0 s1 = some res) : J E 0 0 88 [(0, vR (some o)), (2, vI x2), (3, vI x3), (5, vI x5), (6, vI x6), (7, vI x7)] [vI s0, vI s1] S ad := by
  refine j_iadd K dX8_guess_88 ?_
  refine j_istore (lv' := [(4, vI (s1 + s0)), (0, vR (some o)), (2, vI x2), (3, vI x3), (5, vI x5), (6, vI x6), (7, vI x7)]) K dX8_guess_89 X.2.2.1 (by decide) rfl ?_
  refine j_iload K dX8_guess_91 6 rfl ?_
  refine j_if_eq K dX8_guess_93 (fun c93 => ?_) (fun c93 => ?_)
  · replace h := it c93 h
    exact j_sub [1, 2, 3, 0, 4, 5] rfl (w_X8_guess_107 K X hk48 h)
  · replace h := ie c93 h
    refine j_iload K dX8_guess_96 4 rfl ?_
    refine j_iconst (v := (-1 : Int32)) K dX8_guess_98 (by decide) ?_
    refine j_icmp_ne K dX8_guess_99 (fun c99 => ?_) (fun c99 => ?_)
    · replace h := ie c99 h
      exact j_sub [1, 2, 3, 0, 4, 5] rfl (w_X8_guess_107 K X hk48 h)
    · replace h := it c99 h
      refine j_iload K dX8_guess_102 5 rfl ?_
      refine j_goto K dX8_guess_104 ?_
      exact j_sub [1, 2, 3, 0, 5] rfl (w_X8_guess_109 K X hk48 h)
def B_X8_guess_74 (k48 : Hp → Int32 → Int32 → Int32 → Option (Int32 × Hp)) (fu : Nat) (o : Nat) (S : Hp) (x2 : Int32) (x3 : Int32) (x4 : Int32) (x5 : Int32) (x6 : Int32) (s0 : Int32) : Option (Int32 × Hp) :=
  if s0 = 0 then
    B_X8_guess_88 k48 fu o S x2 x3 x5 x6 s0 (0 : Int32) x4
  else
    B_X8_guess_88 k48 fu o S x2 x3 x5 x6 s0 (1 : Int32) x4
set_option maxRecDepth 100000 in
set_option maxHeartbeats 4000000 in
theorem w_X8_guess_74 {E : Cx} {l : Launch} {res : Int32 × Hp} {ad : Nat → Nat} {k48 : Hp → Int32 → Int32 → Int32 → Option (Int32 × Hp)} {fu : Nat} {o : Nat} {S : Hp} {x2 : Int32} {x3 : Int32} {x4 : Int32} {x5 : Int32} {x6 : Int32} {s0 : Int32} (K : Kx E cX8_guess RX8 (rmd 5 0 0)) (X : Bx E l yX8_guess 8 (some .int) 0 0 ad (QI res)) (hk48 : ∀ (S : Hp) (x4 : Int32) (x5 : Int32) (x6 : Int32), k48 S x4 x5 x6 = some res → J E 0 0 48 [(0, vR (some o)), (2, vI x2), (3, vI x3), (4, vI x4), (5, vI x5), (6, vI x6)] [] S ad) (h : B_X8_guess_74 k48 fu o S x2 x3 x4 x5 x6 s0 = some res) : J E 0 0 74 [(0, vR (some o)), (2, vI x2), (3, vI x3), (4, vI x4), (5, vI x5), (6, vI x6)] [vI s0] S ad := by
  refine j_istore (lv' := [(7, vI s0), (0, vR (some o)), (2, vI x2), (3, vI x3), (4, vI x4), (5, vI x5), (6, vI x6)]) K dX8_guess_74 X.2.2.1 (by decide) rfl ?_
  refine j_iload K dX8_guess_76 4 rfl ?_
  refine j_iload K dX8_guess_78 0 rfl ?_
  refine j_if_eq K dX8_guess_80 (fun c80 => ?_) (fun c80 => ?_)
  · replace h := it c80 h
    refine j_iconst (v := (0 : Int32)) K dX8_guess_87 (by decide) ?_
    exact j_sub [1, 2, 3, 5, 6, 0] rfl (w_X8_guess_88 K X hk48 h)
  · replace h := ie c80 h
    refine j_iconst (v := (1 : Int32)) K dX8_guess_83 (by decide) ?_
    refine j_goto K dX8_guess_84 ?_
    exact j_sub [1, 2, 3, 5, 6, 0] rfl (w_X8_guess_88 K X hk48 h)
def B_X8_guess_128 (fu : Nat) (o : Nat) (S : Hp) (s0 : Int32) : Option (Int32 × Hp) :=
  some (s0, S)
set_option maxRecDepth 100000 in
set_option maxHeartbeats 4000000 in
theorem w_X8_guess_128 {E : Cx} {l : Launch} {res : Int32 × Hp} {ad : Nat → Nat} {fu : Nat} {o : Nat} {S : Hp} {s0 : Int32} (K : Kx E cX8_guess RX8 (rmd 5 0 0)) (X : Bx E l yX8_guess 8 (some .int) 0 0 ad (QI res)) (h : B_X8_guess_128 fu o S s0 = some res) : J E 0 0 128 [] [vI s0] S ad := by
  exact j_iret K X dX8_guess_128 h
def L_X8_guess_48 (k48 : Hp → Int32 → Int32 → Int32 → Option (Int32 × Hp)) (fu : Nat) (o : Nat) (x2 : Int32) (x3 : Int32) (S : Hp) (x4 : Int32) (x5 : Int32) (x6 : Int32) : Option (Int32 × Hp) :=
  (gI S (some o) 6 7).bind fun v52 =>
  if ((1 : Int32) <<< (v52 &&& 31)) ≤ x6 then
    if x3 = 0 then
      B_X8_guess_128 fu o S x4
    else
      B_X8_guess_128 fu o S x5
  else
    (ob S 6 (some o)).bind fun _ =>
    b2 (F_X8_beatsBy fu S o x6) fun v62 S62 =>
    if v62 = x2 then
      B_X8_guess_74 k48 fu o S62 x2 x3 x4 x5 x6 (1 : Int32)
    else
      B_X8_guess_74 k48 fu o S62 x2 x3 x4 x5 x6 (0 : Int32)
set_option maxRecDepth 100000 in
set_option maxHeartbeats 4000000 in
theorem wl_X8_guess_48 {E : Cx} {l : Launch} {res : Int32 × Hp} {ad : Nat → Nat} {k48 : Hp → Int32 → Int32 → Int32 → Option (Int32 × Hp)} {fu : Nat} {o : Nat} {S : Hp} {x2 : Int32} {x3 : Int32} {x4 : Int32} {x5 : Int32} {x6 : Int32} (K : Kx E cX8_guess RX8 (rmd 5 0 0)) (X : Bx E l yX8_guess 8 (some .int) 0 0 ad (QI res)) (hk48 : ∀ (S : Hp) (x4 : Int32) (x5 : Int32) (x6 : Int32), k48 S x4 x5 x6 = some res → J E 0 0 48 [(0, vR (some o)), (2, vI x2), (3, vI x3), (4, vI x4), (5, vI x5), (6, vI x6)] [] S ad) (h : L_X8_guess_48 k48 fu o x2 x3 S x4 x5 x6 = some res) : J E 0 0 48 [(0, vR (some o)), (2, vI x2), (3, vI x3), (4, vI x4), (5, vI x5), (6, vI x6)] [] S ad := by
  refine j_iload K dX8_guess_48 5 rfl ?_
  refine j_iconst (v := (1 : Int32)) K dX8_guess_50 (by decide) ?_
  refine j_aload_n K dX8_guess_51 rfl 0 rfl ?_
  obtain ⟨v52, e52, h⟩ := bd h
  refine fgX8_91 K dX8_guess_52 e52 ?_
  refine j_ishl K dX8_guess_55 ?_
  refine j_icmp_ge K dX8_guess_56 (fun c56 => ?_) (fun c56 => ?_)
  · replace h := it c56 h
    refine j_iload_n K dX8_guess_117 rfl 2 rfl ?_
    refine j_if_ne K dX8_guess_118 (fun c118 => ?_) (fun c118 => ?_)
    · replace h := ie c118 h
      refine j_iload K dX8_guess_126 4 rfl ?_
      exact j_sub [] rfl (w_X8_guess_128 K X h)
    · replace h := it c118 h
      refine j_iload K dX8_guess_121 3 rfl ?_
      refine j_goto K dX8_guess_123 ?_
      exact j_sub [] rfl (w_X8_guess_128 K X h)
  · replace h := ie c56 h
    refine j_aload_n K dX8_guess_59 rfl 0 rfl ?_
    refine j_iload K dX8_guess_60 5 rfl ?_
    obtain ⟨w62, ew62, h⟩ := bd h
    have ho62 := obS ew62
    obtain ⟨v62, S62, e62, h⟩ := bd2 h
    refine j_cI (st := []) K (r_V (vs := [vI x6]) (n := 1) (o := o) K (c_X8_beatsBy e62) ho62 (by decide) rfl dX8_guess_62 z1108 z1110 zs52 z13 z1111 ⟨zd_X8_beatsBy, rfl, rfl, rfl, ⟨Nat.le_of_ble_eq_true rfl, Nat.le_of_ble_eq_true rfl⟩, Nat.le_of_ble_eq_true rfl, Nat.le_of_ble_eq_true rfl, Nat.le_of_ble_eq_true rfl⟩) rfl ?_
    refine j_iload_n K dX8_guess_65 rfl 1 rfl ?_
    refine j_icmp_ne K dX8_guess_66 (fun c66 => ?_) (fun c66 => ?_)
    · replace h := ie c66 h
      refine j_iconst (v := (0 : Int32)) K dX8_guess_73 (by decide) ?_
      exact w_X8_guess_74 K X hk48 h
    · replace h := it c66 h
      refine j_iconst (v := (1 : Int32)) K dX8_guess_69 (by decide) ?_
      refine j_goto K dX8_guess_70 ?_
      exact w_X8_guess_74 K X hk48 h
def B_X8_guess_48 (fu : Nat) (o : Nat) (x2 : Int32) (x3 : Int32) : Nat → Hp → Int32 → Int32 → Int32 → Option (Int32 × Hp)
  | 0 => fun _ _ _ _ => none
  | n + 1 => L_X8_guess_48 (B_X8_guess_48 fu o x2 x3 n) fu o x2 x3
theorem w_X8_guess_48 {E : Cx} {l : Launch} {res : Int32 × Hp} {ad : Nat → Nat} {fu : Nat} {o : Nat} {x2 : Int32} {x3 : Int32} (K : Kx E cX8_guess RX8 (rmd 5 0 0)) (X : Bx E l yX8_guess 8 (some .int) 0 0 ad (QI res)) : ∀ (n : Nat) (S : Hp) (x4 : Int32) (x5 : Int32) (x6 : Int32), B_X8_guess_48 fu o x2 x3 n S x4 x5 x6 = some res → J E 0 0 48 [(0, vR (some o)), (2, vI x2), (3, vI x3), (4, vI x4), (5, vI x5), (6, vI x6)] [] S ad := by
  intro n
  induction n with
  | zero =>
    intro S x4 x5 x6 h
    cases h
  | succ n ih =>
    intro S x4 x5 x6 h
    exact wl_X8_guess_48 K X ih h
def F_X8_guess (fu : Nat) (S : Hp) (o : Nat) (x1 : Int32) (x2 : Int32) (x3 : Int32) : Option (Int32 × Hp) :=
  (ob S 6 (some o)).bind fun _ =>
  b2 (F_X8_isOne S o x1) fun v2 S2 =>
  if v2 = 0 then
    some ((-5 : Int32), S2)
  else
    b2 (F_X8_in S2 x2 (0 : Int32) (999 : Int32)) fun v16 S16 =>
    if v16 = 0 then
      B_X8_guess_31 fu o S16
    else
      b2 (F_X8_in S16 x3 (0 : Int32) (1 : Int32)) fun v25 S25 =>
      if v25 = 0 then
        B_X8_guess_31 fu o S25
      else
        (ob S25 6 (some o)).bind fun _ =>
        (F_X8_tellsStrokes fu S25 o x1).bind fun S36 =>
        B_X8_guess_48 fu o x2 x3 fu S36 (0 : Int32) (-1 : Int32) (0 : Int32)
set_option maxRecDepth 100000 in
set_option maxHeartbeats 4000000 in
theorem w_X8_guess {E : Cx} {l : Launch} {res : Int32 × Hp} {ad : Nat → Nat} {fu : Nat} {S : Hp} {o : Nat} {x1 : Int32} {x2 : Int32} {x3 : Int32} (K : Kx E cX8_guess RX8 (rmd 5 0 0)) (X : Bx E l yX8_guess 8 (some .int) 0 0 ad (QI res)) (h : F_X8_guess fu S o x1 x2 x3 = some res) : J E 0 0 0 [(0, vR (some o)), (1, vI x1), (2, vI x2), (3, vI x3)] [] S ad := by
  refine j_aload_n K dX8_guess_0 rfl 0 rfl ?_
  refine j_iload_n K dX8_guess_1 rfl 1 rfl ?_
  obtain ⟨w2, ew2, h⟩ := bd h
  have ho2 := obS ew2
  obtain ⟨v2, S2, e2, h⟩ := bd2 h
  refine j_cI (st := []) K (r_V (vs := [vI x1]) (n := 1) (o := o) K (c_X8_isOne e2) ho2 (by decide) rfl dX8_guess_2 z1003 z1005 zs35 z13 z1006 ⟨zd_X8_isOne, rfl, rfl, rfl, ⟨Nat.le_of_ble_eq_true rfl, Nat.le_of_ble_eq_true rfl⟩, Nat.le_of_ble_eq_true rfl, Nat.le_of_ble_eq_true rfl, Nat.le_of_ble_eq_true rfl⟩) rfl ?_
  refine j_if_ne K dX8_guess_5 (fun c5 => ?_) (fun c5 => ?_)
  · replace h := ie c5 h
    refine j_iload_n K dX8_guess_11 rfl 2 rfl ?_
    refine j_iconst (v := (0 : Int32)) K dX8_guess_12 (by decide) ?_
    refine j_sipush (v := (999 : Int32)) K dX8_guess_13 (by decide) ?_
    obtain ⟨v16, S16, e16, h⟩ := bd2 h
    refine j_cI (st := []) K (r_S (vs := [vI x2, vI (0 : Int32), vI (999 : Int32)]) (n := 3) K (c_X8_in e16) dX8_guess_16 z812 z813 z13 z814 ⟨zd_X8_in, rfl, rfl, rfl, ⟨Nat.le_of_ble_eq_true rfl, Nat.le_of_ble_eq_true rfl⟩, Nat.le_of_ble_eq_true rfl, Nat.le_of_ble_eq_true rfl, Nat.le_of_ble_eq_true rfl⟩) rfl ?_
    refine j_if_eq K dX8_guess_19 (fun c19 => ?_) (fun c19 => ?_)
    · replace h := it c19 h
      exact j_sub [] rfl (w_X8_guess_31 K X h)
    · replace h := ie c19 h
      refine j_iload_n K dX8_guess_22 rfl 3 rfl ?_
      refine j_iconst (v := (0 : Int32)) K dX8_guess_23 (by decide) ?_
      refine j_iconst (v := (1 : Int32)) K dX8_guess_24 (by decide) ?_
      obtain ⟨v25, S25, e25, h⟩ := bd2 h
      refine j_cI (st := []) K (r_S (vs := [vI x3, vI (0 : Int32), vI (1 : Int32)]) (n := 3) K (c_X8_in e25) dX8_guess_25 z812 z813 z13 z814 ⟨zd_X8_in, rfl, rfl, rfl, ⟨Nat.le_of_ble_eq_true rfl, Nat.le_of_ble_eq_true rfl⟩, Nat.le_of_ble_eq_true rfl, Nat.le_of_ble_eq_true rfl, Nat.le_of_ble_eq_true rfl⟩) rfl ?_
      refine j_if_ne K dX8_guess_28 (fun c28 => ?_) (fun c28 => ?_)
      · replace h := ie c28 h
        refine j_aload_n K dX8_guess_34 rfl 0 rfl ?_
        refine j_iload_n K dX8_guess_35 rfl 1 rfl ?_
        obtain ⟨w36, ew36, h⟩ := bd h
        have ho36 := obS ew36
        obtain ⟨S36, e36, h⟩ := bd h
        refine j_cV (st := []) K (r_V (vs := [vI x1]) (n := 1) (o := o) K (c_X8_tellsStrokes e36) ho36 (by decide) rfl dX8_guess_36 z1100 z1102 zs50 z13 z1103 ⟨zd_X8_tellsStrokes, rfl, rfl, rfl, ⟨Nat.le_of_ble_eq_true rfl, Nat.le_of_ble_eq_true rfl⟩, Nat.le_of_ble_eq_true rfl, Nat.le_of_ble_eq_true rfl, Nat.le_of_ble_eq_true rfl⟩) rfl ?_
        refine j_iconst (v := (0 : Int32)) K dX8_guess_39 (by decide) ?_
        refine j_istore (lv' := [(4, vI (0 : Int32)), (0, vR (some o)), (1, vI x1), (2, vI x2), (3, vI x3)]) K dX8_guess_40 X.2.2.1 (by decide) rfl ?_
        refine j_iconst (v := (-1 : Int32)) K dX8_guess_42 (by decide) ?_
        refine j_istore (lv' := [(5, vI (-1 : Int32)), (4, vI (0 : Int32)), (0, vR (some o)), (1, vI x1), (2, vI x2), (3, vI x3)]) K dX8_guess_43 X.2.2.1 (by decide) rfl ?_
        refine j_iconst (v := (0 : Int32)) K dX8_guess_45 (by decide) ?_
        refine j_istore (lv' := [(6, vI (0 : Int32)), (5, vI (-1 : Int32)), (4, vI (0 : Int32)), (0, vR (some o)), (1, vI x1), (2, vI x2), (3, vI x3)]) K dX8_guess_46 X.2.2.1 (by decide) rfl ?_
        exact j_sub [3, 5, 6, 2, 1, 0] rfl (w_X8_guess_48 K X _ _ _ _ _ h)
      · replace h := it c28 h
        exact j_sub [] rfl (w_X8_guess_31 K X h)
  · replace h := it c5 h
    refine j_bipush (v := (-5 : Int32)) K dX8_guess_8 (by decide) ?_
    exact j_iret K X dX8_guess_10 h
theorem c_X8_guess {l : Launch} {fu : Nat} {S : Hp} {o : Nat} {x1 : Int32} {x2 : Int32} {x3 : Int32} {res : Int32 × Hp} (h : F_X8_guess fu S o x1 x2 x3 = some res) : Ct l yX8_guess cX8_guess 8 (some .int) (rmd 5 0 0) 0 0 [vR (some o), vI x1, vI x2, vI x3] S (QI res) :=
  z_entry (by decide +kernel) (Nat.le_of_ble_eq_true rfl) (fun E ad K X => w_X8_guess K X h)

theorem dX8_lowest_0 : decode cX8_lowest 0 = .ok (.lload_n 0, 1) ∧ 0 + 1 = 1 := ⟨by decide +kernel, rfl⟩
theorem dX8_lowest_1 : decode cX8_lowest 1 = .ok (.lconst 0, 1) ∧ 1 + 1 = 2 := ⟨by decide +kernel, rfl⟩
theorem dX8_lowest_2 : decode cX8_lowest 2 = .ok (.lcmp, 1) ∧ 2 + 1 = 3 := ⟨by decide +kernel, rfl⟩
theorem dX8_lowest_3 : decode cX8_lowest 3 = .ok (.ifCond .ne 7, 3) ∧ 3 + 3 = 6 ∧ ((3 : Nat) : Int) + (7) = ((10 : Nat) : Int) := ⟨by decide +kernel, rfl, by decide⟩
theorem dX8_lowest_6 : decode cX8_lowest 6 = .ok (.iload 4, 2) ∧ 6 + 2 = 8 := ⟨by decide +kernel, rfl⟩
theorem dX8_lowest_8 : decode cX8_lowest 8 = .ok (.i2l, 1) ∧ 8 + 1 = 9 := ⟨by decide +kernel, rfl⟩
theorem dX8_lowest_9 : decode cX8_lowest 9 = .ok (.lreturn, 1) := by decide +kernel
theorem dX8_lowest_10 : decode cX8_lowest 10 = .ok (.lload_n 0, 1) ∧ 10 + 1 = 11 := ⟨by decide +kernel, rfl⟩
theorem dX8_lowest_11 : decode cX8_lowest 11 = .ok (.lstore 5, 2) ∧ 11 + 2 = 13 := ⟨by decide +kernel, rfl⟩
theorem dX8_lowest_13 : decode cX8_lowest 13 = .ok (.lload_n 2, 1) ∧ 13 + 1 = 14 := ⟨by decide +kernel, rfl⟩
theorem dX8_lowest_14 : decode cX8_lowest 14 = .ok (.lstore 7, 2) ∧ 14 + 2 = 16 := ⟨by decide +kernel, rfl⟩
theorem dX8_lowest_16 : decode cX8_lowest 16 = .ok (.lload 7, 2) ∧ 16 + 2 = 18 := ⟨by decide +kernel, rfl⟩
theorem dX8_lowest_18 : decode cX8_lowest 18 = .ok (.lconst 0, 1) ∧ 18 + 1 = 19 := ⟨by decide +kernel, rfl⟩
theorem dX8_lowest_19 : decode cX8_lowest 19 = .ok (.lcmp, 1) ∧ 19 + 1 = 20 := ⟨by decide +kernel, rfl⟩
theorem dX8_lowest_20 : decode cX8_lowest 20 = .ok (.ifCond .eq 21, 3) ∧ 20 + 3 = 23 ∧ ((20 : Nat) : Int) + (21) = ((41 : Nat) : Int) := ⟨by decide +kernel, rfl, by decide⟩
theorem dX8_lowest_23 : decode cX8_lowest 23 = .ok (.lload 5, 2) ∧ 23 + 2 = 25 := ⟨by decide +kernel, rfl⟩
theorem dX8_lowest_25 : decode cX8_lowest 25 = .ok (.lload 7, 2) ∧ 25 + 2 = 27 := ⟨by decide +kernel, rfl⟩
theorem dX8_lowest_27 : decode cX8_lowest 27 = .ok (.lrem, 1) ∧ 27 + 1 = 28 := ⟨by decide +kernel, rfl⟩
theorem dX8_lowest_28 : decode cX8_lowest 28 = .ok (.lstore 9, 2) ∧ 28 + 2 = 30 := ⟨by decide +kernel, rfl⟩
theorem dX8_lowest_30 : decode cX8_lowest 30 = .ok (.lload 7, 2) ∧ 30 + 2 = 32 := ⟨by decide +kernel, rfl⟩
theorem dX8_lowest_32 : decode cX8_lowest 32 = .ok (.lstore 5, 2) ∧ 32 + 2 = 34 := ⟨by decide +kernel, rfl⟩
theorem dX8_lowest_34 : decode cX8_lowest 34 = .ok (.lload 9, 2) ∧ 34 + 2 = 36 := ⟨by decide +kernel, rfl⟩
theorem dX8_lowest_36 : decode cX8_lowest 36 = .ok (.lstore 7, 2) ∧ 36 + 2 = 38 := ⟨by decide +kernel, rfl⟩
theorem dX8_lowest_38 : decode cX8_lowest 38 = .ok (.goto (-22), 3) ∧ ((38 : Nat) : Int) + (-22) = ((16 : Nat) : Int) := ⟨by decide +kernel, by decide⟩
theorem dX8_lowest_41 : decode cX8_lowest 41 = .ok (.iload 4, 2) ∧ 41 + 2 = 43 := ⟨by decide +kernel, rfl⟩
theorem dX8_lowest_43 : decode cX8_lowest 43 = .ok (.ifCond .ne 7, 3) ∧ 43 + 3 = 46 ∧ ((43 : Nat) : Int) + (7) = ((50 : Nat) : Int) := ⟨by decide +kernel, rfl, by decide⟩
theorem dX8_lowest_46 : decode cX8_lowest 46 = .ok (.lload_n 0, 1) ∧ 46 + 1 = 47 := ⟨by decide +kernel, rfl⟩
theorem dX8_lowest_47 : decode cX8_lowest 47 = .ok (.goto 4, 3) ∧ ((47 : Nat) : Int) + (4) = ((51 : Nat) : Int) := ⟨by decide +kernel, by decide⟩
theorem dX8_lowest_50 : decode cX8_lowest 50 = .ok (.lload_n 2, 1) ∧ 50 + 1 = 51 := ⟨by decide +kernel, rfl⟩
theorem dX8_lowest_51 : decode cX8_lowest 51 = .ok (.lload 5, 2) ∧ 51 + 2 = 53 := ⟨by decide +kernel, rfl⟩
theorem dX8_lowest_53 : decode cX8_lowest 53 = .ok (.ldiv, 1) ∧ 53 + 1 = 54 := ⟨by decide +kernel, rfl⟩
theorem dX8_lowest_54 : decode cX8_lowest 54 = .ok (.lreturn, 1) := by decide +kernel
def B_X8_lowest_51 (fu : Nat) (S : Hp) (x5 : Int64) (s0 : Int64) : Option (Int64 × Hp) :=
  if x5 = 0 then none else
  some ((s0 / x5), S)
set_option maxRecDepth 100000 in
set_option maxHeartbeats 4000000 in
theorem w_X8_lowest_51 {E : Cx} {l : Launch} {res : Int64 × Hp} {ad : Nat → Nat} {fu : Nat} {S : Hp} {x5 : Int64} {s0 : Int64} (K : Kx E cX8_lowest RX8 (rmd 0 0 0)) (X : Bx E l yX8_lowest 11 (some .long) 0 0 ad (QL res)) (h : B_X8_lowest_51 fu S x5 s0 = some res) : J E 0 0 51 [(5, vJ x5)] [vJ s0] S ad := by
  refine j_lload K dX8_lowest_51 0 rfl ?_
  have c53 : ¬ x5 = 0 := fun q => by cases it q h
  replace h := ie c53 h
  refine j_ldiv K dX8_lowest_53 c53 ?_
  exact j_lret K X dX8_lowest_54 h
def L_X8_lowest_16 (k16 : Hp → Int64 → Int64 → Option (Int64 × Hp)) (fu : Nat) (x0 : Int64) (x2 : Int64) (x4 : Int32) (S : Hp) (x5 : Int64) (x7 : Int64) : Option (Int64 × Hp) :=
  if (lg_cmp x7 (0 : Int64)) = 0 then
    if x4 = 0 then
      B_X8_lowest_51 fu S x5 x0
    else
      B_X8_lowest_51 fu S x5 x2
  else
    if x7 = 0 then none else
    k16 S x7 (x5 - x5 / x7 * x7)
set_option maxRecDepth 100000 in
set_option maxHeartbeats 4000000 in
theorem wl_X8_lowest_16 {E : Cx} {l : Launch} {res : Int64 × Hp} {ad : Nat → Nat} {k16 : Hp → Int64 → Int64 → Option (Int64 × Hp)} {fu : Nat} {S : Hp} {x0 : Int64} {x2 : Int64} {x4 : Int32} {x5 : Int64} {x7 : Int64} (K : Kx E cX8_lowest RX8 (rmd 0 0 0)) (X : Bx E l yX8_lowest 11 (some .long) 0 0 ad (QL res)) (hk16 : ∀ (S : Hp) (x5 : Int64) (x7 : Int64), k16 S x5 x7 = some res → J E 0 0 16 [(0, vJ x0), (2, vJ x2), (4, vI x4), (5, vJ x5), (7, vJ x7)] [] S ad) (h : L_X8_lowest_16 k16 fu x0 x2 x4 S x5 x7 = some res) : J E 0 0 16 [(0, vJ x0), (2, vJ x2), (4, vI x4), (5, vJ x5), (7, vJ x7)] [] S ad := by
  refine j_lload K dX8_lowest_16 4 rfl ?_
  refine j_lconst (v := (0 : Int64)) K dX8_lowest_18 (by decide) ?_
  refine j_lcmp K dX8_lowest_19 ?_
  refine j_if_eq K dX8_lowest_20 (fun c20 => ?_) (fun c20 => ?_)
  · replace h := it c20 h
    refine j_iload K dX8_lowest_41 2 rfl ?_
    refine j_if_ne K dX8_lowest_43 (fun c43 => ?_) (fun c43 => ?_)
    · replace h := ie c43 h
      refine j_lload_n K dX8_lowest_50 rfl 1 rfl ?_
      exact j_sub [3] rfl (w_X8_lowest_51 K X h)
    · replace h := it c43 h
      refine j_lload_n K dX8_lowest_46 rfl 0 rfl ?_
      refine j_goto K dX8_lowest_47 ?_
      exact j_sub [3] rfl (w_X8_lowest_51 K X h)
  · replace h := ie c20 h
    refine j_lload K dX8_lowest_23 3 rfl ?_
    refine j_lload K dX8_lowest_25 4 rfl ?_
    have c27 : ¬ x7 = 0 := fun q => by cases it q h
    replace h := ie c27 h
    refine j_lrem K dX8_lowest_27 c27 ?_
    refine j_lstore (lv' := [(9, vJ (x5 - x5 / x7 * x7)), (0, vJ x0), (2, vJ x2), (4, vI x4), (5, vJ x5), (7, vJ x7)]) K dX8_lowest_28 X.2.2.1 (by decide) rfl ?_
    refine j_lload K dX8_lowest_30 5 rfl ?_
    refine j_lstore (lv' := [(5, vJ x7), (9, vJ (x5 - x5 / x7 * x7)), (0, vJ x0), (2, vJ x2), (4, vI x4), (7, vJ x7)]) K dX8_lowest_32 X.2.2.1 (by decide) rfl ?_
    refine j_lload K dX8_lowest_34 1 rfl ?_
    refine j_lstore (lv' := [(7, vJ (x5 - x5 / x7 * x7)), (5, vJ x7), (9, vJ (x5 - x5 / x7 * x7)), (0, vJ x0), (2, vJ x2), (4, vI x4)]) K dX8_lowest_36 X.2.2.1 (by decide) rfl ?_
    refine j_goto K dX8_lowest_38 ?_
    exact j_sub [3, 4, 5, 1, 0] rfl (hk16 _ _ _ h)
def B_X8_lowest_16 (fu : Nat) (x0 : Int64) (x2 : Int64) (x4 : Int32) : Nat → Hp → Int64 → Int64 → Option (Int64 × Hp)
  | 0 => fun _ _ _ => none
  | n + 1 => L_X8_lowest_16 (B_X8_lowest_16 fu x0 x2 x4 n) fu x0 x2 x4
theorem w_X8_lowest_16 {E : Cx} {l : Launch} {res : Int64 × Hp} {ad : Nat → Nat} {fu : Nat} {x0 : Int64} {x2 : Int64} {x4 : Int32} (K : Kx E cX8_lowest RX8 (rmd 0 0 0)) (X : Bx E l yX8_lowest 11 (some .long) 0 0 ad (QL res)) : ∀ (n : Nat) (S : Hp) (x5 : Int64) (x7 : Int64), B_X8_lowest_16 fu x0 x2 x4 n S x5 x7 = some res → J E 0 0 16 [(0, vJ x0), (2, vJ x2), (4, vI x4), (5, vJ x5), (7, vJ x7)] [] S ad := by
  intro n
  induction n with
  | zero =>
    intro S x5 x7 h
    cases h
  | succ n ih =>
    intro S x5 x7 h
    exact wl_X8_lowest_16 K X ih h
def F_X8_lowest (fu : Nat) (S : Hp) (x0 : Int64) (x2 : Int64) (x4 : Int32) : Option (Int64 × Hp) :=
  if (lg_cmp x0 (0 : Int64)) = 0 then
    some (x4.toInt64, S)
  else
    B_X8_lowest_16 fu x0 x2 x4 fu S x0 x2
set_option maxRecDepth 100000 in
set_option maxHeartbeats 4000000 in
theorem w_X8_lowest {E : Cx} {l : Launch} {res : Int64 × Hp} {ad : Nat → Nat} {fu : Nat} {S : Hp} {x0 : Int64} {x2 : Int64} {x4 : Int32} (K : Kx E cX8_lowest RX8 (rmd 0 0 0)) (X : Bx E l yX8_lowest 11 (some .long) 0 0 ad (QL res)) (h : F_X8_lowest fu S x0 x2 x4 = some res) : J E 0 0 0 [(0, vJ x0), (2, vJ x2), (4, vI x4)] [] S ad := by
  refine j_lload_n K dX8_lowest_0 rfl 0 rfl ?_
  refine j_lconst (v := (0 : Int64)) K dX8_lowest_1 (by decide) ?_
  refine j_lcmp K dX8_lowest_2 ?_
  refine j_if_ne K dX8_lowest_3 (fun c3 => ?_) (fun c3 => ?_)
  · replace h := ie c3 h
    refine j_lload_n K dX8_lowest_10 rfl 0 rfl ?_
    refine j_lstore (lv' := [(5, vJ x0), (0, vJ x0), (2, vJ x2), (4, vI x4)]) K dX8_lowest_11 X.2.2.1 (by decide) rfl ?_
    refine j_lload_n K dX8_lowest_13 rfl 2 rfl ?_
    refine j_lstore (lv' := [(7, vJ x2), (5, vJ x0), (0, vJ x0), (2, vJ x2), (4, vI x4)]) K dX8_lowest_14 X.2.2.1 (by decide) rfl ?_
    exact j_sub [2, 3, 4, 1, 0] rfl (w_X8_lowest_16 K X _ _ _ _ h)
  · replace h := it c3 h
    refine j_iload K dX8_lowest_6 2 rfl ?_
    refine j_i2l K dX8_lowest_8 ?_
    exact j_lret K X dX8_lowest_9 h
theorem c_X8_lowest {l : Launch} {fu : Nat} {S : Hp} {x0 : Int64} {x2 : Int64} {x4 : Int32} {res : Int64 × Hp} (h : F_X8_lowest fu S x0 x2 x4 = some res) : Ct l yX8_lowest cX8_lowest 11 (some .long) (rmd 0 0 0) 0 0 [vJ x0, vJ x2, vI x4] S (QL res) :=
  z_entry (by decide +kernel) (Nat.le_of_ble_eq_true rfl) (fun E ad K X => w_X8_lowest K X h)

theorem dX8_likely_0 : decode cX8_likely 0 = .ok (.aload_n 0, 1) ∧ 0 + 1 = 1 := ⟨by decide +kernel, rfl⟩
theorem dX8_likely_1 : decode cX8_likely 1 = .ok (.iload_n 1, 1) ∧ 1 + 1 = 2 := ⟨by decide +kernel, rfl⟩
theorem dX8_likely_2 : decode cX8_likely 2 = .ok (.invokevirtual 182, 3) := by decide +kernel
theorem dX8_likely_5 : decode cX8_likely 5 = .ok (.ifCond .eq 32, 3) ∧ 5 + 3 = 8 ∧ ((5 : Nat) : Int) + (32) = ((37 : Nat) : Int) := ⟨by decide +kernel, rfl, by decide⟩
theorem dX8_likely_8 : decode cX8_likely 8 = .ok (.iload_n 2, 1) ∧ 8 + 1 = 9 := ⟨by decide +kernel, rfl⟩
theorem dX8_likely_9 : decode cX8_likely 9 = .ok (.iconst 0, 1) ∧ 9 + 1 = 10 := ⟨by decide +kernel, rfl⟩
theorem dX8_likely_10 : decode cX8_likely 10 = .ok (.sipush 999, 3) ∧ 10 + 3 = 13 := ⟨by decide +kernel, rfl⟩
theorem dX8_likely_13 : decode cX8_likely 13 = .ok (.invokestatic 87, 3) := by decide +kernel
theorem dX8_likely_16 : decode cX8_likely 16 = .ok (.ifCond .eq 21, 3) ∧ 16 + 3 = 19 ∧ ((16 : Nat) : Int) + (21) = ((37 : Nat) : Int) := ⟨by decide +kernel, rfl, by decide⟩
theorem dX8_likely_19 : decode cX8_likely 19 = .ok (.aload_n 0, 1) ∧ 19 + 1 = 20 := ⟨by decide +kernel, rfl⟩
theorem dX8_likely_20 : decode cX8_likely 20 = .ok (.iload_n 3, 1) ∧ 20 + 1 = 21 := ⟨by decide +kernel, rfl⟩
theorem dX8_likely_21 : decode cX8_likely 21 = .ok (.invokevirtual 103, 3) := by decide +kernel
theorem dX8_likely_24 : decode cX8_likely 24 = .ok (.ifCond .eq 13, 3) ∧ 24 + 3 = 27 ∧ ((24 : Nat) : Int) + (13) = ((37 : Nat) : Int) := ⟨by decide +kernel, rfl, by decide⟩
theorem dX8_likely_27 : decode cX8_likely 27 = .ok (.iload 4, 2) ∧ 27 + 2 = 29 := ⟨by decide +kernel, rfl⟩
theorem dX8_likely_29 : decode cX8_likely 29 = .ok (.iconst 0, 1) ∧ 29 + 1 = 30 := ⟨by decide +kernel, rfl⟩
theorem dX8_likely_30 : decode cX8_likely 30 = .ok (.iconst 1, 1) ∧ 30 + 1 = 31 := ⟨by decide +kernel, rfl⟩
theorem dX8_likely_31 : decode cX8_likely 31 = .ok (.invokestatic 87, 3) := by decide +kernel
theorem dX8_likely_34 : decode cX8_likely 34 = .ok (.ifCond .ne 7, 3) ∧ 34 + 3 = 37 ∧ ((34 : Nat) : Int) + (7) = ((41 : Nat) : Int) := ⟨by decide +kernel, rfl, by decide⟩
theorem dX8_likely_37 : decode cX8_likely 37 = .ok (.ldc2_w 247, 3) ∧ 37 + 3 = 40 := ⟨by decide +kernel, rfl⟩
theorem dX8_likely_40 : decode cX8_likely 40 = .ok (.lreturn, 1) := by decide +kernel
theorem dX8_likely_41 : decode cX8_likely 41 = .ok (.aload_n 0, 1) ∧ 41 + 1 = 42 := ⟨by decide +kernel, rfl⟩
theorem dX8_likely_42 : decode cX8_likely 42 = .ok (.iload_n 1, 1) ∧ 42 + 1 = 43 := ⟨by decide +kernel, rfl⟩
theorem dX8_likely_43 : decode cX8_likely 43 = .ok (.invokevirtual 226, 3) := by decide +kernel
theorem dX8_likely_46 : decode cX8_likely 46 = .ok (.lconst 0, 1) ∧ 46 + 1 = 47 := ⟨by decide +kernel, rfl⟩
theorem dX8_likely_47 : decode cX8_likely 47 = .ok (.lstore 5, 2) ∧ 47 + 2 = 49 := ⟨by decide +kernel, rfl⟩
theorem dX8_likely_49 : decode cX8_likely 49 = .ok (.lconst 0, 1) ∧ 49 + 1 = 50 := ⟨by decide +kernel, rfl⟩
theorem dX8_likely_50 : decode cX8_likely 50 = .ok (.lstore 7, 2) ∧ 50 + 2 = 52 := ⟨by decide +kernel, rfl⟩
theorem dX8_likely_52 : decode cX8_likely 52 = .ok (.iconst 0, 1) ∧ 52 + 1 = 53 := ⟨by decide +kernel, rfl⟩
theorem dX8_likely_53 : decode cX8_likely 53 = .ok (.istore 9, 2) ∧ 53 + 2 = 55 := ⟨by decide +kernel, rfl⟩
theorem dX8_likely_55 : decode cX8_likely 55 = .ok (.iload 9, 2) ∧ 55 + 2 = 57 := ⟨by decide +kernel, rfl⟩
theorem dX8_likely_57 : decode cX8_likely 57 = .ok (.iconst 1, 1) ∧ 57 + 1 = 58 := ⟨by decide +kernel, rfl⟩
theorem dX8_likely_58 : decode cX8_likely 58 = .ok (.aload_n 0, 1) ∧ 58 + 1 = 59 := ⟨by decide +kernel, rfl⟩
theorem dX8_likely_59 : decode cX8_likely 59 = .ok (.getfield 91, 3) ∧ 59 + 3 = 62 := ⟨by decide +kernel, rfl⟩
theorem dX8_likely_62 : decode cX8_likely 62 = .ok (.ishl, 1) ∧ 62 + 1 = 63 := ⟨by decide +kernel, rfl⟩
theorem dX8_likely_63 : decode cX8_likely 63 = .ok (.if_icmp .ge 66, 3) ∧ 63 + 3 = 66 ∧ ((63 : Nat) : Int) + (66) = ((129 : Nat) : Int) := ⟨by decide +kernel, rfl, by decide⟩
theorem dX8_likely_66 : decode cX8_likely 66 = .ok (.aload_n 0, 1) ∧ 66 + 1 = 67 := ⟨by decide +kernel, rfl⟩
theorem dX8_likely_67 : decode cX8_likely 67 = .ok (.iload 9, 2) ∧ 67 + 2 = 69 := ⟨by decide +kernel, rfl⟩
theorem dX8_likely_69 : decode cX8_likely 69 = .ok (.invokevirtual 232, 3) := by decide +kernel
theorem dX8_likely_72 : decode cX8_likely 72 = .ok (.iload_n 2, 1) ∧ 72 + 1 = 73 := ⟨by decide +kernel, rfl⟩
theorem dX8_likely_73 : decode cX8_likely 73 = .ok (.if_icmp .ne 7, 3) ∧ 73 + 3 = 76 ∧ ((73 : Nat) : Int) + (7) = ((80 : Nat) : Int) := ⟨by decide +kernel, rfl, by decide⟩
theorem dX8_likely_76 : decode cX8_likely 76 = .ok (.iconst 1, 1) ∧ 76 + 1 = 77 := ⟨by decide +kernel, rfl⟩
theorem dX8_likely_77 : decode cX8_likely 77 = .ok (.goto 4, 3) ∧ ((77 : Nat) : Int) + (4) = ((81 : Nat) : Int) := ⟨by decide +kernel, by decide⟩
theorem dX8_likely_80 : decode cX8_likely 80 = .ok (.iconst 0, 1) ∧ 80 + 1 = 81 := ⟨by decide +kernel, rfl⟩
theorem dX8_likely_81 : decode cX8_likely 81 = .ok (.istore 10, 2) ∧ 81 + 2 = 83 := ⟨by decide +kernel, rfl⟩
theorem dX8_likely_83 : decode cX8_likely 83 = .ok (.lload 5, 2) ∧ 83 + 2 = 85 := ⟨by decide +kernel, rfl⟩
theorem dX8_likely_85 : decode cX8_likely 85 = .ok (.iload 10, 2) ∧ 85 + 2 = 87 := ⟨by decide +kernel, rfl⟩
theorem dX8_likely_87 : decode cX8_likely 87 = .ok (.ifCond .eq 7, 3) ∧ 87 + 3 = 90 ∧ ((87 : Nat) : Int) + (7) = ((94 : Nat) : Int) := ⟨by decide +kernel, rfl, by decide⟩
theorem dX8_likely_90 : decode cX8_likely 90 = .ok (.lconst 1, 1) ∧ 90 + 1 = 91 := ⟨by decide +kernel, rfl⟩
theorem dX8_likely_91 : decode cX8_likely 91 = .ok (.goto 4, 3) ∧ ((91 : Nat) : Int) + (4) = ((95 : Nat) : Int) := ⟨by decide +kernel, by decide⟩
theorem dX8_likely_94 : decode cX8_likely 94 = .ok (.lconst 0, 1) ∧ 94 + 1 = 95 := ⟨by decide +kernel, rfl⟩
theorem dX8_likely_95 : decode cX8_likely 95 = .ok (.ladd, 1) ∧ 95 + 1 = 96 := ⟨by decide +kernel, rfl⟩
theorem dX8_likely_96 : decode cX8_likely 96 = .ok (.lstore 5, 2) ∧ 96 + 2 = 98 := ⟨by decide +kernel, rfl⟩
theorem dX8_likely_98 : decode cX8_likely 98 = .ok (.lload 7, 2) ∧ 98 + 2 = 100 := ⟨by decide +kernel, rfl⟩
theorem dX8_likely_100 : decode cX8_likely 100 = .ok (.iload 10, 2) ∧ 100 + 2 = 102 := ⟨by decide +kernel, rfl⟩
theorem dX8_likely_102 : decode cX8_likely 102 = .ok (.ifCond .eq 17, 3) ∧ 102 + 3 = 105 ∧ ((102 : Nat) : Int) + (17) = ((119 : Nat) : Int) := ⟨by decide +kernel, rfl, by decide⟩
theorem dX8_likely_105 : decode cX8_likely 105 = .ok (.iload 9, 2) ∧ 105 + 2 = 107 := ⟨by decide +kernel, rfl⟩
theorem dX8_likely_107 : decode cX8_likely 107 = .ok (.iload_n 3, 1) ∧ 107 + 1 = 108 := ⟨by decide +kernel, rfl⟩
theorem dX8_likely_108 : decode cX8_likely 108 = .ok (.ishr, 1) ∧ 108 + 1 = 109 := ⟨by decide +kernel, rfl⟩
theorem dX8_likely_109 : decode cX8_likely 109 = .ok (.iconst 1, 1) ∧ 109 + 1 = 110 := ⟨by decide +kernel, rfl⟩
theorem dX8_likely_110 : decode cX8_likely 110 = .ok (.iand, 1) ∧ 110 + 1 = 111 := ⟨by decide +kernel, rfl⟩
theorem dX8_likely_111 : decode cX8_likely 111 = .ok (.iconst 1, 1) ∧ 111 + 1 = 112 := ⟨by decide +kernel, rfl⟩
theorem dX8_likely_112 : decode cX8_likely 112 = .ok (.if_icmp .ne 7, 3) ∧ 112 + 3 = 115 ∧ ((112 : Nat) : Int) + (7) = ((119 : Nat) : Int) := ⟨by decide +kernel, rfl, by decide⟩
theorem dX8_likely_115 : decode cX8_likely 115 = .ok (.lconst 1, 1) ∧ 115 + 1 = 116 := ⟨by decide +kernel, rfl⟩
theorem dX8_likely_116 : decode cX8_likely 116 = .ok (.goto 4, 3) ∧ ((116 : Nat) : Int) + (4) = ((120 : Nat) : Int) := ⟨by decide +kernel, by decide⟩
theorem dX8_likely_119 : decode cX8_likely 119 = .ok (.lconst 0, 1) ∧ 119 + 1 = 120 := ⟨by decide +kernel, rfl⟩
theorem dX8_likely_120 : decode cX8_likely 120 = .ok (.ladd, 1) ∧ 120 + 1 = 121 := ⟨by decide +kernel, rfl⟩
theorem dX8_likely_121 : decode cX8_likely 121 = .ok (.lstore 7, 2) ∧ 121 + 2 = 123 := ⟨by decide +kernel, rfl⟩
theorem dX8_likely_123 : decode cX8_likely 123 = .ok (.iinc 9 1, 3) ∧ 123 + 3 = 126 := ⟨by decide +kernel, rfl⟩
theorem dX8_likely_126 : decode cX8_likely 126 = .ok (.goto (-71), 3) ∧ ((126 : Nat) : Int) + (-71) = ((55 : Nat) : Int) := ⟨by decide +kernel, by decide⟩
theorem dX8_likely_129 : decode cX8_likely 129 = .ok (.lload 5, 2) ∧ 129 + 2 = 131 := ⟨by decide +kernel, rfl⟩
theorem dX8_likely_131 : decode cX8_likely 131 = .ok (.lconst 0, 1) ∧ 131 + 1 = 132 := ⟨by decide +kernel, rfl⟩
theorem dX8_likely_132 : decode cX8_likely 132 = .ok (.lcmp, 1) ∧ 132 + 1 = 133 := ⟨by decide +kernel, rfl⟩
theorem dX8_likely_133 : decode cX8_likely 133 = .ok (.ifCond .ne 9, 3) ∧ 133 + 3 = 136 ∧ ((133 : Nat) : Int) + (9) = ((142 : Nat) : Int) := ⟨by decide +kernel, rfl, by decide⟩
theorem dX8_likely_136 : decode cX8_likely 136 = .ok (.ldc2_w 247, 3) ∧ 136 + 3 = 139 := ⟨by decide +kernel, rfl⟩
theorem dX8_likely_139 : decode cX8_likely 139 = .ok (.goto 12, 3) ∧ ((139 : Nat) : Int) + (12) = ((151 : Nat) : Int) := ⟨by decide +kernel, by decide⟩
theorem dX8_likely_142 : decode cX8_likely 142 = .ok (.lload 7, 2) ∧ 142 + 2 = 144 := ⟨by decide +kernel, rfl⟩
theorem dX8_likely_144 : decode cX8_likely 144 = .ok (.lload 5, 2) ∧ 144 + 2 = 146 := ⟨by decide +kernel, rfl⟩
theorem dX8_likely_146 : decode cX8_likely 146 = .ok (.iload 4, 2) ∧ 146 + 2 = 148 := ⟨by decide +kernel, rfl⟩
theorem dX8_likely_148 : decode cX8_likely 148 = .ok (.invokestatic 249, 3) := by decide +kernel
theorem dX8_likely_151 : decode cX8_likely 151 = .ok (.lreturn, 1) := by decide +kernel
def B_X8_likely_37 (fu : Nat) (o : Nat) (S : Hp) : Option (Int64 × Hp) :=
  some ((-4611686018427387904 : Int64), S)
set_option maxRecDepth 100000 in
set_option maxHeartbeats 4000000 in
theorem w_X8_likely_37 {E : Cx} {l : Launch} {res : Int64 × Hp} {ad : Nat → Nat} {fu : Nat} {o : Nat} {S : Hp} (K : Kx E cX8_likely RX8 (rmd 5 0 0)) (X : Bx E l yX8_likely 11 (some .long) 0 0 ad (QL res)) (h : B_X8_likely_37 fu o S = some res) : J E 0 0 37 [] [] S ad := by
  refine j_ldc2 K dX8_likely_37 z1156 ?_
  exact j_lret K X dX8_likely_40 h
def B_X8_likely_120 (k55 : Hp → Int64 → Int64 → Int32 → Option (Int64 × Hp)) (fu : Nat) (o : Nat) (S : Hp) (x2 : Int32) (x3 : Int32) (x4 : Int32) (x5 : Int64) (x9 : Int32) (s0 : Int64) (s1 : Int64) : Option (Int64 × Hp) :=
  k55 S x5 (s1 + s0) (x9 + (1 : Int32))
set_option maxRecDepth 100000 in
set_option maxHeartbeats 4000000 in
theorem w_X8_likely_120 {E : Cx} {l : Launch} {res : Int64 × Hp} {ad : Nat → Nat} {k55 : Hp → Int64 → Int64 → Int32 → Option (Int64 × Hp)} {fu : Nat} {o : Nat} {S : Hp} {x2 : Int32} {x3 : Int32} {x4 : Int32} {x5 : Int64} {x9 : Int32} {s0 : Int64} {s1 : Int64} (K : Kx E cX8_likely RX8 (rmd 5 0 0)) (X : Bx E l yX8_likely 11 (some .long) 0 0 ad (QL res)) (hk55 : ∀ (S : Hp) (x5 : Int64) (x7 : Int64) (x9 : Int32), k55 S x5 x7 x9 = some res → J E 0 0 55 [(0, vR (some o)), (2, vI x2), (3, vI x3), (4, vI x4), (5, vJ x5), (7, vJ x7), (9, vI x9)] [] S ad) (h : B_X8_likely_120 k55 fu o S x2 x3 x4 x5 x9 s0 s1 = some res) : J E 0 0 120 [(0, vR (some o)), (2, vI x2), (3, vI x3), (4, vI x4), (5, vJ x5), (9, vI x9)] [vJ s0, vJ s1] S ad := by
  refine j_ladd K dX8_likely_120 ?_
  refine j_lstore (lv' := [(7, vJ (s1 + s0)), (0, vR (some o)), (2, vI x2), (3, vI x3), (4, vI x4), (5, vJ x5), (9, vI x9)]) K dX8_likely_121 X.2.2.1 (by decide) rfl ?_
  refine j_iinc (q := 6) (v := (x9 + (1 : Int32))) (lv' := [(9, vI (x9 + (1 : Int32))), (7, vJ (s1 + s0)), (0, vR (some o)), (2, vI x2), (3, vI x3), (4, vI x4), (5, vJ x5)]) K dX8_likely_123 rfl rfl X.2.2.1 (by decide) rfl ?_
  refine j_goto K dX8_likely_126 ?_
  exact j_sub [2, 3, 4, 5, 6, 1, 0] rfl (hk55 _ _ _ _ h)
def B_X8_likely_119 (k55 : Hp → Int64 → Int64 → Int32 → Option (Int64 × Hp)) (fu : Nat) (o : Nat) (S : Hp) (x2 : Int32) (x3 : Int32) (x4 : Int32) (x5 : Int64) (x9 : Int32) (s0 : Int64) : Option (Int64 × Hp) :=
  B_X8_likely_120 k55 fu o S x2 x3 x4 x5 x9 (0 : Int64) s0
set_option maxRecDepth 100000 in
set_option maxHeartbeats 4000000 in
theorem w_X8_likely_119 {E : Cx} {l : Launch} {res : Int64 × Hp} {ad : Nat → Nat} {k55 : Hp → Int64 → Int64 → Int32 → Option (Int64 × Hp)} {fu : Nat} {o : Nat} {S : Hp} {x2 : Int32} {x3 : Int32} {x4 : Int32} {x5 : Int64} {x9 : Int32} {s0 : Int64} (K : Kx E cX8_likely RX8 (rmd 5 0 0)) (X : Bx E l yX8_likely 11 (some .long) 0 0 ad (QL res)) (hk55 : ∀ (S : Hp) (x5 : Int64) (x7 : Int64) (x9 : Int32), k55 S x5 x7 x9 = some res → J E 0 0 55 [(0, vR (some o)), (2, vI x2), (3, vI x3), (4, vI x4), (5, vJ x5), (7, vJ x7), (9, vI x9)] [] S ad) (h : B_X8_likely_119 k55 fu o S x2 x3 x4 x5 x9 s0 = some res) : J E 0 0 119 [(0, vR (some o)), (2, vI x2), (3, vI x3), (4, vI x4), (5, vJ x5), (9, vI x9)] [vJ s0] S ad := by
  refine j_lconst (v := (0 : Int64)) K dX8_likely_119 (by decide) ?_
  exact w_X8_likely_120 K X hk55 h
def B_X8_likely_95 (k55 : Hp → Int64 → Int64 → Int32 → Option (Int64 × Hp)) (fu : Nat) (o : Nat) (S : Hp) (x2 : Int32) (x3 : Int32) (x4 : Int32) (x7 : Int64) (x9 : Int32) (x10 : Int32) (s0 : Int64) (s1 : Int64) : Option (Int64 × Hp) :=
  if x10 = 0 then
    B_X8_likely_119 k55 fu o S x2 x3 x4 (s1 + s0) x9 x7
  else
    if ((x9 >>> (x3 &&& 31)) &&& (1 : Int32)) = (1 : Int32) then
      B_X8_likely_120 k55 fu o S x2 x3 x4 (s1 + s0) x9 (1 : Int64) x7
    else
      B_X8_likely_119 k55 fu o S x2 x3 x4 (s1 + s0) x9 x7
set_option maxRecDepth 100000 in
set_option maxHeartbeats 4000000 in
theorem w_X8_likely_95 {E : Cx} {l : Launch} {res : Int64 × Hp} {ad : Nat → Nat} {k55 : Hp → Int64 → Int64 → Int32 → Option (Int64 × Hp)} {fu : Nat} {o : Nat} {S : Hp} {x2 : Int32} {x3 : Int32} {x4 : Int32} {x7 : Int64} {x9 : Int32} {x10 : Int32} {s0 : Int64} {s1 : Int64} (K : Kx E cX8_likely RX8 (rmd 5 0 0)) (X : Bx E l yX8_likely 11 (some .long) 0 0 ad (QL res)) (hk55 : ∀ (S : Hp) (x5 : Int64) (x7 : Int64) (x9 : Int32), k55 S x5 x7 x9 = some res → J E 0 0 55 [(0, vR (some o)), (2, vI x2), (3, vI x3), (4, vI x4), (5, vJ x5), (7, vJ x7), (9, vI x9)] [] S ad) (h : B_X8_likely_95 k55 fu o S x2 x3 x4 x7 x9 x10 s0 s1 = some res) : J E 0 0 95 [(0, vR (some o)), (2, vI x2), (3, vI x3), (4, vI x4), (7, vJ x7), (9, vI x9), (10, vI x10)] [vJ s0, vJ s1] S ad := by
  refine j_ladd K dX8_likely_95 ?_
  refine j_lstore (lv' := [(5, vJ (s1 + s0)), (0, vR (some o)), (2, vI x2), (3, vI x3), (4, vI x4), (7, vJ x7), (9, vI x9), (10, vI x10)]) K dX8_likely_96 X.2.2.1 (by decide) rfl ?_
  refine j_lload K dX8_likely_98 5 rfl ?_
  refine j_iload K dX8_likely_100 7 rfl ?_
  refine j_if_eq K dX8_likely_102 (fun c102 => ?_) (fun c102 => ?_)
  · replace h := it c102 h
    exact j_sub [1, 2, 3, 4, 0, 6] rfl (w_X8_likely_119 K X hk55 h)
  · replace h := ie c102 h
    refine j_iload K dX8_likely_105 6 rfl ?_
    refine j_iload_n K dX8_likely_107 rfl 3 rfl ?_
    refine j_ishr K dX8_likely_108 ?_
    refine j_iconst (v := (1 : Int32)) K dX8_likely_109 (by decide) ?_
    refine j_iand K dX8_likely_110 ?_
    refine j_iconst (v := (1 : Int32)) K dX8_likely_111 (by decide) ?_
    refine j_icmp_ne K dX8_likely_112 (fun c112 => ?_) (fun c112 => ?_)
    · replace h := ie c112 h
      exact j_sub [1, 2, 3, 4, 0, 6] rfl (w_X8_likely_119 K X hk55 h)
    · replace h := it c112 h
      refine j_lconst (v := (1 : Int64)) K dX8_likely_115 (by decide) ?_
      refine j_goto K dX8_likely_116 ?_
      exact j_sub [1, 2, 3, 4, 0, 6] rfl (w_X8_likely_120 K X hk55 h)
def B_X8_likely_81 (k55 : Hp → Int64 → Int64 → Int32 → Option (Int64 × Hp)) (fu : Nat) (o : Nat) (S : Hp) (x2 : Int32) (x3 : Int32) (x4 : Int32) (x5 : Int64) (x7 : Int64) (x9 : Int32) (s0 : Int32) : Option (Int64 × Hp) :=
  if s0 = 0 then
    B_X8_likely_95 k55 fu o S x2 x3 x4 x7 x9 s0 (0 : Int64) x5
  else
    B_X8_likely_95 k55 fu o S x2 x3 x4 x7 x9 s0 (1 : Int64) x5
set_option maxRecDepth 100000 in
set_option maxHeartbeats 4000000 in
theorem w_X8_likely_81 {E : Cx} {l : Launch} {res : Int64 × Hp} {ad : Nat → Nat} {k55 : Hp → Int64 → Int64 → Int32 → Option (Int64 × Hp)} {fu : Nat} {o : Nat} {S : Hp} {x2 : Int32} {x3 : Int32} {x4 : Int32} {x5 : Int64} {x7 : Int64} {x9 : Int32} {s0 : Int32} (K : Kx E cX8_likely RX8 (rmd 5 0 0)) (X : Bx E l yX8_likely 11 (some .long) 0 0 ad (QL res)) (hk55 : ∀ (S : Hp) (x5 : Int64) (x7 : Int64) (x9 : Int32), k55 S x5 x7 x9 = some res → J E 0 0 55 [(0, vR (some o)), (2, vI x2), (3, vI x3), (4, vI x4), (5, vJ x5), (7, vJ x7), (9, vI x9)] [] S ad) (h : B_X8_likely_81 k55 fu o S x2 x3 x4 x5 x7 x9 s0 = some res) : J E 0 0 81 [(0, vR (some o)), (2, vI x2), (3, vI x3), (4, vI x4), (5, vJ x5), (7, vJ x7), (9, vI x9)] [vI s0] S ad := by
  refine j_istore (lv' := [(10, vI s0), (0, vR (some o)), (2, vI x2), (3, vI x3), (4, vI x4), (5, vJ x5), (7, vJ x7), (9, vI x9)]) K dX8_likely_81 X.2.2.1 (by decide) rfl ?_
  refine j_lload K dX8_likely_83 5 rfl ?_
  refine j_iload K dX8_likely_85 0 rfl ?_
  refine j_if_eq K dX8_likely_87 (fun c87 => ?_) (fun c87 => ?_)
  · replace h := it c87 h
    refine j_lconst (v := (0 : Int64)) K dX8_likely_94 (by decide) ?_
    exact j_sub [1, 2, 3, 4, 6, 7, 0] rfl (w_X8_likely_95 K X hk55 h)
  · replace h := ie c87 h
    refine j_lconst (v := (1 : Int64)) K dX8_likely_90 (by decide) ?_
    refine j_goto K dX8_likely_91 ?_
    exact j_sub [1, 2, 3, 4, 6, 7, 0] rfl (w_X8_likely_95 K X hk55 h)
def B_X8_likely_151 (fu : Nat) (o : Nat) (S : Hp) (s0 : Int64) : Option (Int64 × Hp) :=
  some (s0, S)
set_option maxRecDepth 100000 in
set_option maxHeartbeats 4000000 in
theorem w_X8_likely_151 {E : Cx} {l : Launch} {res : Int64 × Hp} {ad : Nat → Nat} {fu : Nat} {o : Nat} {S : Hp} {s0 : Int64} (K : Kx E cX8_likely RX8 (rmd 5 0 0)) (X : Bx E l yX8_likely 11 (some .long) 0 0 ad (QL res)) (h : B_X8_likely_151 fu o S s0 = some res) : J E 0 0 151 [] [vJ s0] S ad := by
  exact j_lret K X dX8_likely_151 h
def L_X8_likely_55 (k55 : Hp → Int64 → Int64 → Int32 → Option (Int64 × Hp)) (fu : Nat) (o : Nat) (x2 : Int32) (x3 : Int32) (x4 : Int32) (S : Hp) (x5 : Int64) (x7 : Int64) (x9 : Int32) : Option (Int64 × Hp) :=
  (gI S (some o) 6 7).bind fun v59 =>
  if ((1 : Int32) <<< (v59 &&& 31)) ≤ x9 then
    if (lg_cmp x5 (0 : Int64)) = 0 then
      B_X8_likely_151 fu o S (-4611686018427387904 : Int64)
    else
      b2 (F_X8_lowest fu S x7 x5 x4) fun v148 S148 =>
      B_X8_likely_151 fu o S148 v148
  else
    (ob S 6 (some o)).bind fun _ =>
    b2 (F_X8_beatsBy fu S o x9) fun v69 S69 =>
    if v69 = x2 then
      B_X8_likely_81 k55 fu o S69 x2 x3 x4 x5 x7 x9 (1 : Int32)
    else
      B_X8_likely_81 k55 fu o S69 x2 x3 x4 x5 x7 x9 (0 : Int32)
set_option maxRecDepth 100000 in
set_option maxHeartbeats 4000000 in
theorem wl_X8_likely_55 {E : Cx} {l : Launch} {res : Int64 × Hp} {ad : Nat → Nat} {k55 : Hp → Int64 → Int64 → Int32 → Option (Int64 × Hp)} {fu : Nat} {o : Nat} {S : Hp} {x2 : Int32} {x3 : Int32} {x4 : Int32} {x5 : Int64} {x7 : Int64} {x9 : Int32} (K : Kx E cX8_likely RX8 (rmd 5 0 0)) (X : Bx E l yX8_likely 11 (some .long) 0 0 ad (QL res)) (hk55 : ∀ (S : Hp) (x5 : Int64) (x7 : Int64) (x9 : Int32), k55 S x5 x7 x9 = some res → J E 0 0 55 [(0, vR (some o)), (2, vI x2), (3, vI x3), (4, vI x4), (5, vJ x5), (7, vJ x7), (9, vI x9)] [] S ad) (h : L_X8_likely_55 k55 fu o x2 x3 x4 S x5 x7 x9 = some res) : J E 0 0 55 [(0, vR (some o)), (2, vI x2), (3, vI x3), (4, vI x4), (5, vJ x5), (7, vJ x7), (9, vI x9)] [] S ad := by
  refine j_iload K dX8_likely_55 6 rfl ?_
  refine j_iconst (v := (1 : Int32)) K dX8_likely_57 (by decide) ?_
  refine j_aload_n K dX8_likely_58 rfl 0 rfl ?_
  obtain ⟨v59, e59, h⟩ := bd h
  refine fgX8_91 K dX8_likely_59 e59 ?_
  refine j_ishl K dX8_likely_62 ?_
  refine j_icmp_ge K dX8_likely_63 (fun c63 => ?_) (fun c63 => ?_)
  · replace h := it c63 h
    refine j_lload K dX8_likely_129 4 rfl ?_
    refine j_lconst (v := (0 : Int64)) K dX8_likely_131 (by decide) ?_
    refine j_lcmp K dX8_likely_132 ?_
    refine j_if_ne K dX8_likely_133 (fun c133 => ?_) (fun c133 => ?_)
    · replace h := ie c133 h
      refine j_lload K dX8_likely_142 5 rfl ?_
      refine j_lload K dX8_likely_144 4 rfl ?_
      refine j_iload K dX8_likely_146 3 rfl ?_
      obtain ⟨v148, S148, e148, h⟩ := bd2 h
      refine j_cL (st := []) K (r_S (vs := [vJ x7, vJ x5, vI x4]) (n := 3) K (c_X8_lowest e148) dX8_likely_148 z1157 z1158 z13 z1159 ⟨zd_X8_lowest, rfl, rfl, rfl, ⟨Nat.le_of_ble_eq_true rfl, Nat.le_of_ble_eq_true rfl⟩, Nat.le_of_ble_eq_true rfl, Nat.le_of_ble_eq_true rfl, Nat.le_of_ble_eq_true rfl⟩) rfl ?_
      exact j_sub [] rfl (w_X8_likely_151 K X h)
    · replace h := it c133 h
      refine j_ldc2 K dX8_likely_136 z1156 ?_
      refine j_goto K dX8_likely_139 ?_
      exact j_sub [] rfl (w_X8_likely_151 K X h)
  · replace h := ie c63 h
    refine j_aload_n K dX8_likely_66 rfl 0 rfl ?_
    refine j_iload K dX8_likely_67 6 rfl ?_
    obtain ⟨w69, ew69, h⟩ := bd h
    have ho69 := obS ew69
    obtain ⟨v69, S69, e69, h⟩ := bd2 h
    refine j_cI (st := []) K (r_V (vs := [vI x9]) (n := 1) (o := o) K (c_X8_beatsBy e69) ho69 (by decide) rfl dX8_likely_69 z1108 z1110 zs52 z13 z1111 ⟨zd_X8_beatsBy, rfl, rfl, rfl, ⟨Nat.le_of_ble_eq_true rfl, Nat.le_of_ble_eq_true rfl⟩, Nat.le_of_ble_eq_true rfl, Nat.le_of_ble_eq_true rfl, Nat.le_of_ble_eq_true rfl⟩) rfl ?_
    refine j_iload_n K dX8_likely_72 rfl 1 rfl ?_
    refine j_icmp_ne K dX8_likely_73 (fun c73 => ?_) (fun c73 => ?_)
    · replace h := ie c73 h
      refine j_iconst (v := (0 : Int32)) K dX8_likely_80 (by decide) ?_
      exact w_X8_likely_81 K X hk55 h
    · replace h := it c73 h
      refine j_iconst (v := (1 : Int32)) K dX8_likely_76 (by decide) ?_
      refine j_goto K dX8_likely_77 ?_
      exact w_X8_likely_81 K X hk55 h
def B_X8_likely_55 (fu : Nat) (o : Nat) (x2 : Int32) (x3 : Int32) (x4 : Int32) : Nat → Hp → Int64 → Int64 → Int32 → Option (Int64 × Hp)
  | 0 => fun _ _ _ _ => none
  | n + 1 => L_X8_likely_55 (B_X8_likely_55 fu o x2 x3 x4 n) fu o x2 x3 x4
theorem w_X8_likely_55 {E : Cx} {l : Launch} {res : Int64 × Hp} {ad : Nat → Nat} {fu : Nat} {o : Nat} {x2 : Int32} {x3 : Int32} {x4 : Int32} (K : Kx E cX8_likely RX8 (rmd 5 0 0)) (X : Bx E l yX8_likely 11 (some .long) 0 0 ad (QL res)) : ∀ (n : Nat) (S : Hp) (x5 : Int64) (x7 : Int64) (x9 : Int32), B_X8_likely_55 fu o x2 x3 x4 n S x5 x7 x9 = some res → J E 0 0 55 [(0, vR (some o)), (2, vI x2), (3, vI x3), (4, vI x4), (5, vJ x5), (7, vJ x7), (9, vI x9)] [] S ad := by
  intro n
  induction n with
  | zero =>
    intro S x5 x7 x9 h
    cases h
  | succ n ih =>
    intro S x5 x7 x9 h
    exact wl_X8_likely_55 K X ih h
def F_X8_likely (fu : Nat) (S : Hp) (o : Nat) (x1 : Int32) (x2 : Int32) (x3 : Int32) (x4 : Int32) : Option (Int64 × Hp) :=
  (ob S 6 (some o)).bind fun _ =>
  b2 (F_X8_isOne S o x1) fun v2 S2 =>
  if v2 = 0 then
    B_X8_likely_37 fu o S2
  else
    b2 (F_X8_in S2 x2 (0 : Int32) (999 : Int32)) fun v13 S13 =>
    if v13 = 0 then
      B_X8_likely_37 fu o S13
    else
      (ob S13 6 (some o)).bind fun _ =>
      b2 (F_X8_isWrong S13 o x3) fun v21 S21 =>
      if v21 = 0 then
        B_X8_likely_37 fu o S21
      else
        b2 (F_X8_in S21 x4 (0 : Int32) (1 : Int32)) fun v31 S31 =>
        if v31 = 0 then
          B_X8_likely_37 fu o S31
        else
          (ob S31 6 (some o)).bind fun _ =>
          (F_X8_tellsStrokes fu S31 o x1).bind fun S43 =>
          B_X8_likely_55 fu o x2 x3 x4 fu S43 (0 : Int64) (0 : Int64) (0 : Int32)
set_option maxRecDepth 100000 in
set_option maxHeartbeats 4000000 in
theorem w_X8_likely {E : Cx} {l : Launch} {res : Int64 × Hp} {ad : Nat → Nat} {fu : Nat} {S : Hp} {o : Nat} {x1 : Int32} {x2 : Int32} {x3 : Int32} {x4 : Int32} (K : Kx E cX8_likely RX8 (rmd 5 0 0)) (X : Bx E l yX8_likely 11 (some .long) 0 0 ad (QL res)) (h : F_X8_likely fu S o x1 x2 x3 x4 = some res) : J E 0 0 0 [(0, vR (some o)), (1, vI x1), (2, vI x2), (3, vI x3), (4, vI x4)] [] S ad := by
  refine j_aload_n K dX8_likely_0 rfl 0 rfl ?_
  refine j_iload_n K dX8_likely_1 rfl 1 rfl ?_
  obtain ⟨w2, ew2, h⟩ := bd h
  have ho2 := obS ew2
  obtain ⟨v2, S2, e2, h⟩ := bd2 h
  refine j_cI (st := []) K (r_V (vs := [vI x1]) (n := 1) (o := o) K (c_X8_isOne e2) ho2 (by decide) rfl dX8_likely_2 z1003 z1005 zs35 z13 z1006 ⟨zd_X8_isOne, rfl, rfl, rfl, ⟨Nat.le_of_ble_eq_true rfl, Nat.le_of_ble_eq_true rfl⟩, Nat.le_of_ble_eq_true rfl, Nat.le_of_ble_eq_true rfl, Nat.le_of_ble_eq_true rfl⟩) rfl ?_
  refine j_if_eq K dX8_likely_5 (fun c5 => ?_) (fun c5 => ?_)
  · replace h := it c5 h
    exact j_sub [] rfl (w_X8_likely_37 K X h)
  · replace h := ie c5 h
    refine j_iload_n K dX8_likely_8 rfl 2 rfl ?_
    refine j_iconst (v := (0 : Int32)) K dX8_likely_9 (by decide) ?_
    refine j_sipush (v := (999 : Int32)) K dX8_likely_10 (by decide) ?_
    obtain ⟨v13, S13, e13, h⟩ := bd2 h
    refine j_cI (st := []) K (r_S (vs := [vI x2, vI (0 : Int32), vI (999 : Int32)]) (n := 3) K (c_X8_in e13) dX8_likely_13 z812 z813 z13 z814 ⟨zd_X8_in, rfl, rfl, rfl, ⟨Nat.le_of_ble_eq_true rfl, Nat.le_of_ble_eq_true rfl⟩, Nat.le_of_ble_eq_true rfl, Nat.le_of_ble_eq_true rfl, Nat.le_of_ble_eq_true rfl⟩) rfl ?_
    refine j_if_eq K dX8_likely_16 (fun c16 => ?_) (fun c16 => ?_)
    · replace h := it c16 h
      exact j_sub [] rfl (w_X8_likely_37 K X h)
    · replace h := ie c16 h
      refine j_aload_n K dX8_likely_19 rfl 0 rfl ?_
      refine j_iload_n K dX8_likely_20 rfl 3 rfl ?_
      obtain ⟨w21, ew21, h⟩ := bd h
      have ho21 := obS ew21
      obtain ⟨v21, S21, e21, h⟩ := bd2 h
      refine j_cI (st := []) K (r_V (vs := [vI x3]) (n := 1) (o := o) K (c_X8_isWrong e21) ho21 (by decide) rfl dX8_likely_21 z975 z977 zs33 z13 z978 ⟨zd_X8_isWrong, rfl, rfl, rfl, ⟨Nat.le_of_ble_eq_true rfl, Nat.le_of_ble_eq_true rfl⟩, Nat.le_of_ble_eq_true rfl, Nat.le_of_ble_eq_true rfl, Nat.le_of_ble_eq_true rfl⟩) rfl ?_
      refine j_if_eq K dX8_likely_24 (fun c24 => ?_) (fun c24 => ?_)
      · replace h := it c24 h
        exact j_sub [] rfl (w_X8_likely_37 K X h)
      · replace h := ie c24 h
        refine j_iload K dX8_likely_27 4 rfl ?_
        refine j_iconst (v := (0 : Int32)) K dX8_likely_29 (by decide) ?_
        refine j_iconst (v := (1 : Int32)) K dX8_likely_30 (by decide) ?_
        obtain ⟨v31, S31, e31, h⟩ := bd2 h
        refine j_cI (st := []) K (r_S (vs := [vI x4, vI (0 : Int32), vI (1 : Int32)]) (n := 3) K (c_X8_in e31) dX8_likely_31 z812 z813 z13 z814 ⟨zd_X8_in, rfl, rfl, rfl, ⟨Nat.le_of_ble_eq_true rfl, Nat.le_of_ble_eq_true rfl⟩, Nat.le_of_ble_eq_true rfl, Nat.le_of_ble_eq_true rfl, Nat.le_of_ble_eq_true rfl⟩) rfl ?_
        refine j_if_ne K dX8_likely_34 (fun c34 => ?_) (fun c34 => ?_)
        · replace h := ie c34 h
          refine j_aload_n K dX8_likely_41 rfl 0 rfl ?_
          refine j_iload_n K dX8_likely_42 rfl 1 rfl ?_
          obtain ⟨w43, ew43, h⟩ := bd h
          have ho43 := obS ew43
          obtain ⟨S43, e43, h⟩ := bd h
          refine j_cV (st := []) K (r_V (vs := [vI x1]) (n := 1) (o := o) K (c_X8_tellsStrokes e43) ho43 (by decide) rfl dX8_likely_43 z1100 z1102 zs50 z13 z1103 ⟨zd_X8_tellsStrokes, rfl, rfl, rfl, ⟨Nat.le_of_ble_eq_true rfl, Nat.le_of_ble_eq_true rfl⟩, Nat.le_of_ble_eq_true rfl, Nat.le_of_ble_eq_true rfl, Nat.le_of_ble_eq_true rfl⟩) rfl ?_
          refine j_lconst (v := (0 : Int64)) K dX8_likely_46 (by decide) ?_
          refine j_lstore (lv' := [(5, vJ (0 : Int64)), (0, vR (some o)), (1, vI x1), (2, vI x2), (3, vI x3), (4, vI x4)]) K dX8_likely_47 X.2.2.1 (by decide) rfl ?_
          refine j_lconst (v := (0 : Int64)) K dX8_likely_49 (by decide) ?_
          refine j_lstore (lv' := [(7, vJ (0 : Int64)), (5, vJ (0 : Int64)), (0, vR (some o)), (1, vI x1), (2, vI x2), (3, vI x3), (4, vI x4)]) K dX8_likely_50 X.2.2.1 (by decide) rfl ?_
          refine j_iconst (v := (0 : Int32)) K dX8_likely_52 (by decide) ?_
          refine j_istore (lv' := [(9, vI (0 : Int32)), (7, vJ (0 : Int64)), (5, vJ (0 : Int64)), (0, vR (some o)), (1, vI x1), (2, vI x2), (3, vI x3), (4, vI x4)]) K dX8_likely_53 X.2.2.1 (by decide) rfl ?_
          exact j_sub [3, 5, 6, 7, 2, 1, 0] rfl (w_X8_likely_55 K X _ _ _ _ _ h)
        · replace h := it c34 h
          exact j_sub [] rfl (w_X8_likely_37 K X h)
theorem c_X8_likely {l : Launch} {fu : Nat} {S : Hp} {o : Nat} {x1 : Int32} {x2 : Int32} {x3 : Int32} {x4 : Int32} {res : Int64 × Hp} (h : F_X8_likely fu S o x1 x2 x3 x4 = some res) : Ct l yX8_likely cX8_likely 11 (some .long) (rmd 5 0 0) 0 0 [vR (some o), vI x1, vI x2, vI x3, vI x4] S (QL res) :=
  z_entry (by decide +kernel) (Nat.le_of_ble_eq_true rfl) (fun E ad K X => w_X8_likely K X h)

theorem dX8_share_0 : decode cX8_share 0 = .ok (.aload_n 0, 1) ∧ 0 + 1 = 1 := ⟨by decide +kernel, rfl⟩
theorem dX8_share_1 : decode cX8_share 1 = .ok (.invokevirtual 223, 3) := by decide +kernel
theorem dX8_share_4 : decode cX8_share 4 = .ok (.istore_n 3, 1) ∧ 4 + 1 = 5 := ⟨by decide +kernel, rfl⟩
theorem dX8_share_5 : decode cX8_share 5 = .ok (.aload_n 0, 1) ∧ 5 + 1 = 6 := ⟨by decide +kernel, rfl⟩
theorem dX8_share_6 : decode cX8_share 6 = .ok (.iload_n 1, 1) ∧ 6 + 1 = 7 := ⟨by decide +kernel, rfl⟩
theorem dX8_share_7 : decode cX8_share 7 = .ok (.invokevirtual 182, 3) := by decide +kernel
theorem dX8_share_10 : decode cX8_share 10 = .ok (.ifCond .eq 16, 3) ∧ 10 + 3 = 13 ∧ ((10 : Nat) : Int) + (16) = ((26 : Nat) : Int) := ⟨by decide +kernel, rfl, by decide⟩
theorem dX8_share_13 : decode cX8_share 13 = .ok (.iload_n 2, 1) ∧ 13 + 1 = 14 := ⟨by decide +kernel, rfl⟩
theorem dX8_share_14 : decode cX8_share 14 = .ok (.iconst 0, 1) ∧ 14 + 1 = 15 := ⟨by decide +kernel, rfl⟩
theorem dX8_share_15 : decode cX8_share 15 = .ok (.iconst 1, 1) ∧ 15 + 1 = 16 := ⟨by decide +kernel, rfl⟩
theorem dX8_share_16 : decode cX8_share 16 = .ok (.invokestatic 87, 3) := by decide +kernel
theorem dX8_share_19 : decode cX8_share 19 = .ok (.ifCond .eq 7, 3) ∧ 19 + 3 = 22 ∧ ((19 : Nat) : Int) + (7) = ((26 : Nat) : Int) := ⟨by decide +kernel, rfl, by decide⟩
theorem dX8_share_22 : decode cX8_share 22 = .ok (.iload_n 3, 1) ∧ 22 + 1 = 23 := ⟨by decide +kernel, rfl⟩
theorem dX8_share_23 : decode cX8_share 23 = .ok (.ifCond .ne 9, 3) ∧ 23 + 3 = 26 ∧ ((23 : Nat) : Int) + (9) = ((32 : Nat) : Int) := ⟨by decide +kernel, rfl, by decide⟩
theorem dX8_share_26 : decode cX8_share 26 = .ok (.ldc2_w 247, 3) ∧ 26 + 3 = 29 := ⟨by decide +kernel, rfl⟩
theorem dX8_share_29 : decode cX8_share 29 = .ok (.goto 15, 3) ∧ ((29 : Nat) : Int) + (15) = ((44 : Nat) : Int) := ⟨by decide +kernel, by decide⟩
theorem dX8_share_32 : decode cX8_share 32 = .ok (.aload_n 0, 1) ∧ 32 + 1 = 33 := ⟨by decide +kernel, rfl⟩
theorem dX8_share_33 : decode cX8_share 33 = .ok (.iload_n 1, 1) ∧ 33 + 1 = 34 := ⟨by decide +kernel, rfl⟩
theorem dX8_share_34 : decode cX8_share 34 = .ok (.invokevirtual 214, 3) := by decide +kernel
theorem dX8_share_37 : decode cX8_share 37 = .ok (.i2l, 1) ∧ 37 + 1 = 38 := ⟨by decide +kernel, rfl⟩
theorem dX8_share_38 : decode cX8_share 38 = .ok (.iload_n 3, 1) ∧ 38 + 1 = 39 := ⟨by decide +kernel, rfl⟩
theorem dX8_share_39 : decode cX8_share 39 = .ok (.i2l, 1) ∧ 39 + 1 = 40 := ⟨by decide +kernel, rfl⟩
theorem dX8_share_40 : decode cX8_share 40 = .ok (.iload_n 2, 1) ∧ 40 + 1 = 41 := ⟨by decide +kernel, rfl⟩
theorem dX8_share_41 : decode cX8_share 41 = .ok (.invokestatic 249, 3) := by decide +kernel
theorem dX8_share_44 : decode cX8_share 44 = .ok (.lreturn, 1) := by decide +kernel
def B_X8_share_44 (fu : Nat) (o : Nat) (S : Hp) (s0 : Int64) : Option (Int64 × Hp) :=
  some (s0, S)
set_option maxRecDepth 100000 in
set_option maxHeartbeats 4000000 in
theorem w_X8_share_44 {E : Cx} {l : Launch} {res : Int64 × Hp} {ad : Nat → Nat} {fu : Nat} {o : Nat} {S : Hp} {s0 : Int64} (K : Kx E cX8_share RX8 (rmd 6 0 0)) (X : Bx E l yX8_share 4 (some .long) 0 0 ad (QL res)) (h : B_X8_share_44 fu o S s0 = some res) : J E 0 0 44 [] [vJ s0] S ad := by
  exact j_lret K X dX8_share_44 h
def B_X8_share_26 (fu : Nat) (o : Nat) (S : Hp) : Option (Int64 × Hp) :=
  B_X8_share_44 fu o S (-4611686018427387904 : Int64)
set_option maxRecDepth 100000 in
set_option maxHeartbeats 4000000 in
theorem w_X8_share_26 {E : Cx} {l : Launch} {res : Int64 × Hp} {ad : Nat → Nat} {fu : Nat} {o : Nat} {S : Hp} (K : Kx E cX8_share RX8 (rmd 6 0 0)) (X : Bx E l yX8_share 4 (some .long) 0 0 ad (QL res)) (h : B_X8_share_26 fu o S = some res) : J E 0 0 26 [] [] S ad := by
  refine j_ldc2 K dX8_share_26 z1156 ?_
  refine j_goto K dX8_share_29 ?_
  exact w_X8_share_44 K X h
def F_X8_share (fu : Nat) (S : Hp) (o : Nat) (x1 : Int32) (x2 : Int32) : Option (Int64 × Hp) :=
  (ob S 6 (some o)).bind fun _ =>
  b2 (F_X8_beatsAll fu S o) fun v1 S1 =>
  (ob S1 6 (some o)).bind fun _ =>
  b2 (F_X8_isOne S1 o x1) fun v7 S7 =>
  if v7 = 0 then
    B_X8_share_26 fu o S7
  else
    b2 (F_X8_in S7 x2 (0 : Int32) (1 : Int32)) fun v16 S16 =>
    if v16 = 0 then
      B_X8_share_26 fu o S16
    else
      if v1 = 0 then
        B_X8_share_26 fu o S16
      else
        (ob S16 6 (some o)).bind fun _ =>
        b2 (F_X8_beatsOf fu S16 o x1) fun v34 S34 =>
        b2 (F_X8_lowest fu S34 v34.toInt64 v1.toInt64 x2) fun v41 S41 =>
        B_X8_share_44 fu o S41 v41
set_option maxRecDepth 100000 in
set_option maxHeartbeats 4000000 in
theorem w_X8_share {E : Cx} {l : Launch} {res : Int64 × Hp} {ad : Nat → Nat} {fu : Nat} {S : Hp} {o : Nat} {x1 : Int32} {x2 : Int32} (K : Kx E cX8_share RX8 (rmd 6 0 0)) (X : Bx E l yX8_share 4 (some .long) 0 0 ad (QL res)) (h : F_X8_share fu S o x1 x2 = some res) : J E 0 0 0 [(0, vR (some o)), (1, vI x1), (2, vI x2)] [] S ad := by
  refine j_aload_n K dX8_share_0 rfl 0 rfl ?_
  obtain ⟨w1, ew1, h⟩ := bd h
  have ho1 := obS ew1
  obtain ⟨v1, S1, e1, h⟩ := bd2 h
  refine j_cI (st := []) K (r_V (vs := []) (n := 0) (o := o) K (c_X8_beatsAll e1) ho1 (by decide) rfl dX8_share_1 z1088 z1090 zs49 z13 z1091 ⟨zd_X8_beatsAll, rfl, rfl, rfl, ⟨Nat.le_of_ble_eq_true rfl, Nat.le_of_ble_eq_true rfl⟩, Nat.le_of_ble_eq_true rfl, Nat.le_of_ble_eq_true rfl, Nat.le_of_ble_eq_true rfl⟩) rfl ?_
  refine j_istore_n (lv' := [(3, vI v1), (0, vR (some o)), (1, vI x1), (2, vI x2)]) K dX8_share_4 rfl X.2.2.1 (by decide) rfl ?_
  refine j_aload_n K dX8_share_5 rfl 1 rfl ?_
  refine j_iload_n K dX8_share_6 rfl 2 rfl ?_
  obtain ⟨w7, ew7, h⟩ := bd h
  have ho7 := obS ew7
  obtain ⟨v7, S7, e7, h⟩ := bd2 h
  refine j_cI (st := []) K (r_V (vs := [vI x1]) (n := 1) (o := o) K (c_X8_isOne e7) ho7 (by decide) rfl dX8_share_7 z1003 z1005 zs35 z13 z1006 ⟨zd_X8_isOne, rfl, rfl, rfl, ⟨Nat.le_of_ble_eq_true rfl, Nat.le_of_ble_eq_true rfl⟩, Nat.le_of_ble_eq_true rfl, Nat.le_of_ble_eq_true rfl, Nat.le_of_ble_eq_true rfl⟩) rfl ?_
  refine j_if_eq K dX8_share_10 (fun c10 => ?_) (fun c10 => ?_)
  · replace h := it c10 h
    exact j_sub [] rfl (w_X8_share_26 K X h)
  · replace h := ie c10 h
    refine j_iload_n K dX8_share_13 rfl 3 rfl ?_
    refine j_iconst (v := (0 : Int32)) K dX8_share_14 (by decide) ?_
    refine j_iconst (v := (1 : Int32)) K dX8_share_15 (by decide) ?_
    obtain ⟨v16, S16, e16, h⟩ := bd2 h
    refine j_cI (st := []) K (r_S (vs := [vI x2, vI (0 : Int32), vI (1 : Int32)]) (n := 3) K (c_X8_in e16) dX8_share_16 z812 z813 z13 z814 ⟨zd_X8_in, rfl, rfl, rfl, ⟨Nat.le_of_ble_eq_true rfl, Nat.le_of_ble_eq_true rfl⟩, Nat.le_of_ble_eq_true rfl, Nat.le_of_ble_eq_true rfl, Nat.le_of_ble_eq_true rfl⟩) rfl ?_
    refine j_if_eq K dX8_share_19 (fun c19 => ?_) (fun c19 => ?_)
    · replace h := it c19 h
      exact j_sub [] rfl (w_X8_share_26 K X h)
    · replace h := ie c19 h
      refine j_iload_n K dX8_share_22 rfl 0 rfl ?_
      refine j_if_ne K dX8_share_23 (fun c23 => ?_) (fun c23 => ?_)
      · replace h := ie c23 h
        refine j_aload_n K dX8_share_32 rfl 1 rfl ?_
        refine j_iload_n K dX8_share_33 rfl 2 rfl ?_
        obtain ⟨w34, ew34, h⟩ := bd h
        have ho34 := obS ew34
        obtain ⟨v34, S34, e34, h⟩ := bd2 h
        refine j_cI (st := []) K (r_V (vs := [vI x1]) (n := 1) (o := o) K (c_X8_beatsOf e34) ho34 (by decide) rfl dX8_share_34 z1052 z1054 zs41 z13 z1055 ⟨zd_X8_beatsOf, rfl, rfl, rfl, ⟨Nat.le_of_ble_eq_true rfl, Nat.le_of_ble_eq_true rfl⟩, Nat.le_of_ble_eq_true rfl, Nat.le_of_ble_eq_true rfl, Nat.le_of_ble_eq_true rfl⟩) rfl ?_
        refine j_i2l K dX8_share_37 ?_
        refine j_iload_n K dX8_share_38 rfl 0 rfl ?_
        refine j_i2l K dX8_share_39 ?_
        refine j_iload_n K dX8_share_40 rfl 3 rfl ?_
        obtain ⟨v41, S41, e41, h⟩ := bd2 h
        refine j_cL (st := []) K (r_S (vs := [vJ v34.toInt64, vJ v1.toInt64, vI x2]) (n := 3) K (c_X8_lowest e41) dX8_share_41 z1157 z1158 z13 z1159 ⟨zd_X8_lowest, rfl, rfl, rfl, ⟨Nat.le_of_ble_eq_true rfl, Nat.le_of_ble_eq_true rfl⟩, Nat.le_of_ble_eq_true rfl, Nat.le_of_ble_eq_true rfl, Nat.le_of_ble_eq_true rfl⟩) rfl ?_
        exact j_sub [] rfl (w_X8_share_44 K X h)
      · replace h := it c23 h
        exact j_sub [] rfl (w_X8_share_26 K X h)
theorem c_X8_share {l : Launch} {fu : Nat} {S : Hp} {o : Nat} {x1 : Int32} {x2 : Int32} {res : Int64 × Hp} (h : F_X8_share fu S o x1 x2 = some res) : Ct l yX8_share cX8_share 4 (some .long) (rmd 6 0 0) 0 0 [vR (some o), vI x1, vI x2] S (QL res) :=
  z_entry (by decide +kernel) (Nat.le_of_ble_eq_true rfl) (fun E ad K X => w_X8_share K X h)

theorem dX8_sheetWrong_0 : decode cX8_sheetWrong 0 = .ok (.iload_n 1, 1) ∧ 0 + 1 = 1 := ⟨by decide +kernel, rfl⟩
theorem dX8_sheetWrong_1 : decode cX8_sheetWrong 1 = .ok (.iconst 0, 1) ∧ 1 + 1 = 2 := ⟨by decide +kernel, rfl⟩
theorem dX8_sheetWrong_2 : decode cX8_sheetWrong 2 = .ok (.iconst 3, 1) ∧ 2 + 1 = 3 := ⟨by decide +kernel, rfl⟩
theorem dX8_sheetWrong_3 : decode cX8_sheetWrong 3 = .ok (.invokestatic 87, 3) := by decide +kernel
theorem dX8_sheetWrong_6 : decode cX8_sheetWrong 6 = .ok (.ifCond .ne 6, 3) ∧ 6 + 3 = 9 ∧ ((6 : Nat) : Int) + (6) = ((12 : Nat) : Int) := ⟨by decide +kernel, rfl, by decide⟩
theorem dX8_sheetWrong_9 : decode cX8_sheetWrong 9 = .ok (.bipush (-2), 2) ∧ 9 + 2 = 11 := ⟨by decide +kernel, rfl⟩
theorem dX8_sheetWrong_11 : decode cX8_sheetWrong 11 = .ok (.ireturn, 1) := by decide +kernel
theorem dX8_sheetWrong_12 : decode cX8_sheetWrong 12 = .ok (.aload_n 0, 1) ∧ 12 + 1 = 13 := ⟨by decide +kernel, rfl⟩
theorem dX8_sheetWrong_13 : decode cX8_sheetWrong 13 = .ok (.getfield 43, 3) ∧ 13 + 3 = 16 := ⟨by decide +kernel, rfl⟩
theorem dX8_sheetWrong_16 : decode cX8_sheetWrong 16 = .ok (.iload_n 1, 1) ∧ 16 + 1 = 17 := ⟨by decide +kernel, rfl⟩
theorem dX8_sheetWrong_17 : decode cX8_sheetWrong 17 = .ok (.iaload, 1) ∧ 17 + 1 = 18 := ⟨by decide +kernel, rfl⟩
theorem dX8_sheetWrong_18 : decode cX8_sheetWrong 18 = .ok (.iconst (-1), 1) ∧ 18 + 1 = 19 := ⟨by decide +kernel, rfl⟩
theorem dX8_sheetWrong_19 : decode cX8_sheetWrong 19 = .ok (.if_icmp .ne 6, 3) ∧ 19 + 3 = 22 ∧ ((19 : Nat) : Int) + (6) = ((25 : Nat) : Int) := ⟨by decide +kernel, rfl, by decide⟩
theorem dX8_sheetWrong_22 : decode cX8_sheetWrong 22 = .ok (.bipush (-11), 2) ∧ 22 + 2 = 24 := ⟨by decide +kernel, rfl⟩
theorem dX8_sheetWrong_24 : decode cX8_sheetWrong 24 = .ok (.ireturn, 1) := by decide +kernel
theorem dX8_sheetWrong_25 : decode cX8_sheetWrong 25 = .ok (.aload_n 0, 1) ∧ 25 + 1 = 26 := ⟨by decide +kernel, rfl⟩
theorem dX8_sheetWrong_26 : decode cX8_sheetWrong 26 = .ok (.getfield 46, 3) ∧ 26 + 3 = 29 := ⟨by decide +kernel, rfl⟩
theorem dX8_sheetWrong_29 : decode cX8_sheetWrong 29 = .ok (.iload_n 1, 1) ∧ 29 + 1 = 30 := ⟨by decide +kernel, rfl⟩
theorem dX8_sheetWrong_30 : decode cX8_sheetWrong 30 = .ok (.iaload, 1) ∧ 30 + 1 = 31 := ⟨by decide +kernel, rfl⟩
theorem dX8_sheetWrong_31 : decode cX8_sheetWrong 31 = .ok (.aload_n 0, 1) ∧ 31 + 1 = 32 := ⟨by decide +kernel, rfl⟩
theorem dX8_sheetWrong_32 : decode cX8_sheetWrong 32 = .ok (.getfield 84, 3) ∧ 32 + 3 = 35 := ⟨by decide +kernel, rfl⟩
theorem dX8_sheetWrong_35 : decode cX8_sheetWrong 35 = .ok (.if_icmp .le 8, 3) ∧ 35 + 3 = 38 ∧ ((35 : Nat) : Int) + (8) = ((43 : Nat) : Int) := ⟨by decide +kernel, rfl, by decide⟩
theorem dX8_sheetWrong_38 : decode cX8_sheetWrong 38 = .ok (.bipush (-2), 2) ∧ 38 + 2 = 40 := ⟨by decide +kernel, rfl⟩
theorem dX8_sheetWrong_40 : decode cX8_sheetWrong 40 = .ok (.goto 4, 3) ∧ ((40 : Nat) : Int) + (4) = ((44 : Nat) : Int) := ⟨by decide +kernel, by decide⟩
theorem dX8_sheetWrong_43 : decode cX8_sheetWrong 43 = .ok (.iconst 0, 1) ∧ 43 + 1 = 44 := ⟨by decide +kernel, rfl⟩
theorem dX8_sheetWrong_44 : decode cX8_sheetWrong 44 = .ok (.ireturn, 1) := by decide +kernel
def B_X8_sheetWrong_44 (o : Nat) (S : Hp) (s0 : Int32) : Option (Int32 × Hp) :=
  some (s0, S)
set_option maxRecDepth 100000 in
set_option maxHeartbeats 4000000 in
theorem w_X8_sheetWrong_44 {E : Cx} {l : Launch} {res : Int32 × Hp} {ad : Nat → Nat} {o : Nat} {S : Hp} {s0 : Int32} (K : Kx E cX8_sheetWrong RX8 (rmd 1 0 0)) (X : Bx E l yX8_sheetWrong 2 (some .int) 0 0 ad (QI res)) (h : B_X8_sheetWrong_44 o S s0 = some res) : J E 0 0 44 [] [vI s0] S ad := by
  exact j_iret K X dX8_sheetWrong_44 h
def F_X8_sheetWrong (S : Hp) (o : Nat) (x1 : Int32) : Option (Int32 × Hp) :=
  b2 (F_X8_in S x1 (0 : Int32) (3 : Int32)) fun v3 S3 =>
  if v3 = 0 then
    some ((-2 : Int32), S3)
  else
    (gR S3 (some o) 6 18).bind fun v13 =>
    (aG S3 v13 x1).bind fun v17 =>
    if v17 = (-1 : Int32) then
      some ((-11 : Int32), S3)
    else
      (gR S3 (some o) 6 19).bind fun v26 =>
      (aG S3 v26 x1).bind fun v30 =>
      (gI S3 (some o) 6 0).bind fun v32 =>
      if v30 ≤ v32 then
        B_X8_sheetWrong_44 o S3 (0 : Int32)
      else
        B_X8_sheetWrong_44 o S3 (-2 : Int32)
set_option maxRecDepth 100000 in
set_option maxHeartbeats 4000000 in
theorem w_X8_sheetWrong {E : Cx} {l : Launch} {res : Int32 × Hp} {ad : Nat → Nat} {S : Hp} {o : Nat} {x1 : Int32} (K : Kx E cX8_sheetWrong RX8 (rmd 1 0 0)) (X : Bx E l yX8_sheetWrong 2 (some .int) 0 0 ad (QI res)) (h : F_X8_sheetWrong S o x1 = some res) : J E 0 0 0 [(0, vR (some o)), (1, vI x1)] [] S ad := by
  refine j_iload_n K dX8_sheetWrong_0 rfl 1 rfl ?_
  refine j_iconst (v := (0 : Int32)) K dX8_sheetWrong_1 (by decide) ?_
  refine j_iconst (v := (3 : Int32)) K dX8_sheetWrong_2 (by decide) ?_
  obtain ⟨v3, S3, e3, h⟩ := bd2 h
  refine j_cI (st := []) K (r_S (vs := [vI x1, vI (0 : Int32), vI (3 : Int32)]) (n := 3) K (c_X8_in e3) dX8_sheetWrong_3 z812 z813 z13 z814 ⟨zd_X8_in, rfl, rfl, rfl, ⟨Nat.le_of_ble_eq_true rfl, Nat.le_of_ble_eq_true rfl⟩, Nat.le_of_ble_eq_true rfl, Nat.le_of_ble_eq_true rfl, Nat.le_of_ble_eq_true rfl⟩) rfl ?_
  refine j_if_ne K dX8_sheetWrong_6 (fun c6 => ?_) (fun c6 => ?_)
  · replace h := ie c6 h
    refine j_aload_n K dX8_sheetWrong_12 rfl 0 rfl ?_
    obtain ⟨v13, e13, h⟩ := bd h
    refine fgX8_43 K dX8_sheetWrong_13 e13 ?_
    refine j_iload_n K dX8_sheetWrong_16 rfl 1 rfl ?_
    obtain ⟨v17, e17, h⟩ := bd h
    refine j_aG K dX8_sheetWrong_17 e17 ?_
    refine j_iconst (v := (-1 : Int32)) K dX8_sheetWrong_18 (by decide) ?_
    refine j_icmp_ne K dX8_sheetWrong_19 (fun c19 => ?_) (fun c19 => ?_)
    · replace h := ie c19 h
      refine j_aload_n K dX8_sheetWrong_25 rfl 0 rfl ?_
      obtain ⟨v26, e26, h⟩ := bd h
      refine fgX8_46 K dX8_sheetWrong_26 e26 ?_
      refine j_iload_n K dX8_sheetWrong_29 rfl 1 rfl ?_
      obtain ⟨v30, e30, h⟩ := bd h
      refine j_aG K dX8_sheetWrong_30 e30 ?_
      refine j_aload_n K dX8_sheetWrong_31 rfl 0 rfl ?_
      obtain ⟨v32, e32, h⟩ := bd h
      refine fgX8_84 K dX8_sheetWrong_32 e32 ?_
      refine j_icmp_le K dX8_sheetWrong_35 (fun c35 => ?_) (fun c35 => ?_)
      · replace h := it c35 h
        refine j_iconst (v := (0 : Int32)) K dX8_sheetWrong_43 (by decide) ?_
        exact j_sub [] rfl (w_X8_sheetWrong_44 K X h)
      · replace h := ie c35 h
        refine j_bipush (v := (-2 : Int32)) K dX8_sheetWrong_38 (by decide) ?_
        refine j_goto K dX8_sheetWrong_40 ?_
        exact j_sub [] rfl (w_X8_sheetWrong_44 K X h)
    · replace h := it c19 h
      refine j_bipush (v := (-11 : Int32)) K dX8_sheetWrong_22 (by decide) ?_
      exact j_iret K X dX8_sheetWrong_24 h
  · replace h := it c6 h
    refine j_bipush (v := (-2 : Int32)) K dX8_sheetWrong_9 (by decide) ?_
    exact j_iret K X dX8_sheetWrong_11 h
theorem c_X8_sheetWrong {l : Launch} {S : Hp} {o : Nat} {x1 : Int32} {res : Int32 × Hp} (h : F_X8_sheetWrong S o x1 = some res) : Ct l yX8_sheetWrong cX8_sheetWrong 2 (some .int) (rmd 1 0 0) 0 0 [vR (some o), vI x1] S (QI res) :=
  z_entry (by decide +kernel) (Nat.le_of_ble_eq_true rfl) (fun E ad K X => w_X8_sheetWrong K X h)

theorem dX8_unlike_0 : decode cX8_unlike 0 = .ok (.iconst 0, 1) ∧ 0 + 1 = 1 := ⟨by decide +kernel, rfl⟩
theorem dX8_unlike_1 : decode cX8_unlike 1 = .ok (.istore_n 2, 1) ∧ 1 + 1 = 2 := ⟨by decide +kernel, rfl⟩
theorem dX8_unlike_2 : decode cX8_unlike 2 = .ok (.iload_n 2, 1) ∧ 2 + 1 = 3 := ⟨by decide +kernel, rfl⟩
theorem dX8_unlike_3 : decode cX8_unlike 3 = .ok (.aload_n 0, 1) ∧ 3 + 1 = 4 := ⟨by decide +kernel, rfl⟩
theorem dX8_unlike_4 : decode cX8_unlike 4 = .ok (.getfield 46, 3) ∧ 4 + 3 = 7 := ⟨by decide +kernel, rfl⟩
theorem dX8_unlike_7 : decode cX8_unlike 7 = .ok (.iload_n 1, 1) ∧ 7 + 1 = 8 := ⟨by decide +kernel, rfl⟩
theorem dX8_unlike_8 : decode cX8_unlike 8 = .ok (.iaload, 1) ∧ 8 + 1 = 9 := ⟨by decide +kernel, rfl⟩
theorem dX8_unlike_9 : decode cX8_unlike 9 = .ok (.if_icmp .ge 30, 3) ∧ 9 + 3 = 12 ∧ ((9 : Nat) : Int) + (30) = ((39 : Nat) : Int) := ⟨by decide +kernel, rfl, by decide⟩
theorem dX8_unlike_12 : decode cX8_unlike 12 = .ok (.aload_n 0, 1) ∧ 12 + 1 = 13 := ⟨by decide +kernel, rfl⟩
theorem dX8_unlike_13 : decode cX8_unlike 13 = .ok (.getfield 49, 3) ∧ 13 + 3 = 16 := ⟨by decide +kernel, rfl⟩
theorem dX8_unlike_16 : decode cX8_unlike 16 = .ok (.bipush 40, 2) ∧ 16 + 2 = 18 := ⟨by decide +kernel, rfl⟩
theorem dX8_unlike_18 : decode cX8_unlike 18 = .ok (.iload_n 1, 1) ∧ 18 + 1 = 19 := ⟨by decide +kernel, rfl⟩
theorem dX8_unlike_19 : decode cX8_unlike 19 = .ok (.imul, 1) ∧ 19 + 1 = 20 := ⟨by decide +kernel, rfl⟩
theorem dX8_unlike_20 : decode cX8_unlike 20 = .ok (.iload_n 2, 1) ∧ 20 + 1 = 21 := ⟨by decide +kernel, rfl⟩
theorem dX8_unlike_21 : decode cX8_unlike 21 = .ok (.iadd, 1) ∧ 21 + 1 = 22 := ⟨by decide +kernel, rfl⟩
theorem dX8_unlike_22 : decode cX8_unlike 22 = .ok (.iaload, 1) ∧ 22 + 1 = 23 := ⟨by decide +kernel, rfl⟩
theorem dX8_unlike_23 : decode cX8_unlike 23 = .ok (.aload_n 0, 1) ∧ 23 + 1 = 24 := ⟨by decide +kernel, rfl⟩
theorem dX8_unlike_24 : decode cX8_unlike 24 = .ok (.iload_n 2, 1) ∧ 24 + 1 = 25 := ⟨by decide +kernel, rfl⟩
theorem dX8_unlike_25 : decode cX8_unlike 25 = .ok (.invokevirtual 214, 3) := by decide +kernel
theorem dX8_unlike_28 : decode cX8_unlike 28 = .ok (.if_icmp .eq 5, 3) ∧ 28 + 3 = 31 ∧ ((28 : Nat) : Int) + (5) = ((33 : Nat) : Int) := ⟨by decide +kernel, rfl, by decide⟩
theorem dX8_unlike_31 : decode cX8_unlike 31 = .ok (.iload_n 2, 1) ∧ 31 + 1 = 32 := ⟨by decide +kernel, rfl⟩
theorem dX8_unlike_32 : decode cX8_unlike 32 = .ok (.ireturn, 1) := by decide +kernel
theorem dX8_unlike_33 : decode cX8_unlike 33 = .ok (.iinc 2 1, 3) ∧ 33 + 3 = 36 := ⟨by decide +kernel, rfl⟩
theorem dX8_unlike_36 : decode cX8_unlike 36 = .ok (.goto (-34), 3) ∧ ((36 : Nat) : Int) + (-34) = ((2 : Nat) : Int) := ⟨by decide +kernel, by decide⟩
theorem dX8_unlike_39 : decode cX8_unlike 39 = .ok (.iconst (-1), 1) ∧ 39 + 1 = 40 := ⟨by decide +kernel, rfl⟩
theorem dX8_unlike_40 : decode cX8_unlike 40 = .ok (.ireturn, 1) := by decide +kernel
def L_X8_unlike_2 (k2 : Hp → Int32 → Option (Int32 × Hp)) (fu : Nat) (o : Nat) (x1 : Int32) (S : Hp) (x2 : Int32) : Option (Int32 × Hp) :=
  (gR S (some o) 6 19).bind fun v4 =>
  (aG S v4 x1).bind fun v8 =>
  if v8 ≤ x2 then
    some ((-1 : Int32), S)
  else
    (gR S (some o) 6 20).bind fun v13 =>
    (aG S v13 (((40 : Int32) * x1) + x2)).bind fun v22 =>
    (ob S 6 (some o)).bind fun _ =>
    b2 (F_X8_beatsOf fu S o x2) fun v25 S25 =>
    if v22 = v25 then
      k2 S25 (x2 + (1 : Int32))
    else
      some (x2, S25)
set_option maxRecDepth 100000 in
set_option maxHeartbeats 4000000 in
theorem wl_X8_unlike_2 {E : Cx} {l : Launch} {res : Int32 × Hp} {ad : Nat → Nat} {k2 : Hp → Int32 → Option (Int32 × Hp)} {fu : Nat} {o : Nat} {S : Hp} {x1 : Int32} {x2 : Int32} (K : Kx E cX8_unlike RX8 (rmd 5 0 0)) (X : Bx E l yX8_unlike 3 (some .int) 0 0 ad (QI res)) (hk2 : ∀ (S : Hp) (x2 : Int32), k2 S x2 = some res → J E 0 0 2 [(0, vR (some o)), (1, vI x1), (2, vI x2)] [] S ad) (h : L_X8_unlike_2 k2 fu o x1 S x2 = some res) : J E 0 0 2 [(0, vR (some o)), (1, vI x1), (2, vI x2)] [] S ad := by
  refine j_iload_n K dX8_unlike_2 rfl 2 rfl ?_
  refine j_aload_n K dX8_unlike_3 rfl 0 rfl ?_
  obtain ⟨v4, e4, h⟩ := bd h
  refine fgX8_46 K dX8_unlike_4 e4 ?_
  refine j_iload_n K dX8_unlike_7 rfl 1 rfl ?_
  obtain ⟨v8, e8, h⟩ := bd h
  refine j_aG K dX8_unlike_8 e8 ?_
  refine j_icmp_ge K dX8_unlike_9 (fun c9 => ?_) (fun c9 => ?_)
  · replace h := it c9 h
    refine j_iconst (v := (-1 : Int32)) K dX8_unlike_39 (by decide) ?_
    exact j_iret K X dX8_unlike_40 h
  · replace h := ie c9 h
    refine j_aload_n K dX8_unlike_12 rfl 0 rfl ?_
    obtain ⟨v13, e13, h⟩ := bd h
    refine fgX8_49 K dX8_unlike_13 e13 ?_
    refine j_bipush (v := (40 : Int32)) K dX8_unlike_16 (by decide) ?_
    refine j_iload_n K dX8_unlike_18 rfl 1 rfl ?_
    refine j_imul K dX8_unlike_19 ?_
    refine j_iload_n K dX8_unlike_20 rfl 2 rfl ?_
    refine j_iadd K dX8_unlike_21 ?_
    obtain ⟨v22, e22, h⟩ := bd h
    refine j_aG K dX8_unlike_22 e22 ?_
    refine j_aload_n K dX8_unlike_23 rfl 0 rfl ?_
    refine j_iload_n K dX8_unlike_24 rfl 2 rfl ?_
    obtain ⟨w25, ew25, h⟩ := bd h
    have ho25 := obS ew25
    obtain ⟨v25, S25, e25, h⟩ := bd2 h
    refine j_cI (st := [vI v22]) K (r_V (vs := [vI x2]) (n := 1) (o := o) K (c_X8_beatsOf e25) ho25 (by decide) rfl dX8_unlike_25 z1052 z1054 zs41 z13 z1055 ⟨zd_X8_beatsOf, rfl, rfl, rfl, ⟨Nat.le_of_ble_eq_true rfl, Nat.le_of_ble_eq_true rfl⟩, Nat.le_of_ble_eq_true rfl, Nat.le_of_ble_eq_true rfl, Nat.le_of_ble_eq_true rfl⟩) rfl ?_
    refine j_icmp_eq K dX8_unlike_28 (fun c28 => ?_) (fun c28 => ?_)
    · replace h := it c28 h
      refine j_iinc (q := 2) (v := (x2 + (1 : Int32))) (lv' := [(2, vI (x2 + (1 : Int32))), (0, vR (some o)), (1, vI x1)]) K dX8_unlike_33 rfl rfl X.2.2.1 (by decide) rfl ?_
      refine j_goto K dX8_unlike_36 ?_
      exact j_sub [1, 2, 0] rfl (hk2 _ _ h)
    · replace h := ie c28 h
      refine j_iload_n K dX8_unlike_31 rfl 2 rfl ?_
      exact j_iret K X dX8_unlike_32 h
def B_X8_unlike_2 (fu : Nat) (o : Nat) (x1 : Int32) : Nat → Hp → Int32 → Option (Int32 × Hp)
  | 0 => fun _ _ => none
  | n + 1 => L_X8_unlike_2 (B_X8_unlike_2 fu o x1 n) fu o x1
theorem w_X8_unlike_2 {E : Cx} {l : Launch} {res : Int32 × Hp} {ad : Nat → Nat} {fu : Nat} {o : Nat} {x1 : Int32} (K : Kx E cX8_unlike RX8 (rmd 5 0 0)) (X : Bx E l yX8_unlike 3 (some .int) 0 0 ad (QI res)) : ∀ (n : Nat) (S : Hp) (x2 : Int32), B_X8_unlike_2 fu o x1 n S x2 = some res → J E 0 0 2 [(0, vR (some o)), (1, vI x1), (2, vI x2)] [] S ad := by
  intro n
  induction n with
  | zero =>
    intro S x2 h
    cases h
  | succ n ih =>
    intro S x2 h
    exact wl_X8_unlike_2 K X ih h
def F_X8_unlike (fu : Nat) (S : Hp) (o : Nat) (x1 : Int32) : Option (Int32 × Hp) :=
  B_X8_unlike_2 fu o x1 fu S (0 : Int32)
set_option maxRecDepth 100000 in
set_option maxHeartbeats 4000000 in
theorem w_X8_unlike {E : Cx} {l : Launch} {res : Int32 × Hp} {ad : Nat → Nat} {fu : Nat} {S : Hp} {o : Nat} {x1 : Int32} (K : Kx E cX8_unlike RX8 (rmd 5 0 0)) (X : Bx E l yX8_unlike 3 (some .int) 0 0 ad (QI res)) (h : F_X8_unlike fu S o x1 = some res) : J E 0 0 0 [(0, vR (some o)), (1, vI x1)] [] S ad := by
  refine j_iconst (v := (0 : Int32)) K dX8_unlike_0 (by decide) ?_
  refine j_istore_n (lv' := [(2, vI (0 : Int32)), (0, vR (some o)), (1, vI x1)]) K dX8_unlike_1 rfl X.2.2.1 (by decide) rfl ?_
  exact j_sub [1, 2, 0] rfl (w_X8_unlike_2 K X _ _ _ h)
theorem c_X8_unlike {l : Launch} {fu : Nat} {S : Hp} {o : Nat} {x1 : Int32} {res : Int32 × Hp} (h : F_X8_unlike fu S o x1 = some res) : Ct l yX8_unlike cX8_unlike 3 (some .int) (rmd 5 0 0) 0 0 [vR (some o), vI x1] S (QI res) :=
  z_entry (by decide +kernel) (Nat.le_of_ble_eq_true rfl) (fun E ad K X => w_X8_unlike K X h)

theorem dX8_judge_0 : decode cX8_judge 0 = .ok (.aload_n 0, 1) ∧ 0 + 1 = 1 := ⟨by decide +kernel, rfl⟩
theorem dX8_judge_1 : decode cX8_judge 1 = .ok (.iload_n 1, 1) ∧ 1 + 1 = 2 := ⟨by decide +kernel, rfl⟩
theorem dX8_judge_2 : decode cX8_judge 2 = .ok (.invokevirtual 253, 3) := by decide +kernel
theorem dX8_judge_5 : decode cX8_judge 5 = .ok (.istore_n 2, 1) ∧ 5 + 1 = 6 := ⟨by decide +kernel, rfl⟩
theorem dX8_judge_6 : decode cX8_judge 6 = .ok (.iload_n 2, 1) ∧ 6 + 1 = 7 := ⟨by decide +kernel, rfl⟩
theorem dX8_judge_7 : decode cX8_judge 7 = .ok (.ifCond .ne 11, 3) ∧ 7 + 3 = 10 ∧ ((7 : Nat) : Int) + (11) = ((18 : Nat) : Int) := ⟨by decide +kernel, rfl, by decide⟩
theorem dX8_judge_10 : decode cX8_judge 10 = .ok (.aload_n 0, 1) ∧ 10 + 1 = 11 := ⟨by decide +kernel, rfl⟩
theorem dX8_judge_11 : decode cX8_judge 11 = .ok (.iload_n 1, 1) ∧ 11 + 1 = 12 := ⟨by decide +kernel, rfl⟩
theorem dX8_judge_12 : decode cX8_judge 12 = .ok (.invokevirtual 256, 3) := by decide +kernel
theorem dX8_judge_15 : decode cX8_judge 15 = .ok (.goto 4, 3) ∧ ((15 : Nat) : Int) + (4) = ((19 : Nat) : Int) := ⟨by decide +kernel, by decide⟩
theorem dX8_judge_18 : decode cX8_judge 18 = .ok (.iload_n 2, 1) ∧ 18 + 1 = 19 := ⟨by decide +kernel, rfl⟩
theorem dX8_judge_19 : decode cX8_judge 19 = .ok (.ireturn, 1) := by decide +kernel
def B_X8_judge_19 (fu : Nat) (o : Nat) (S : Hp) (s0 : Int32) : Option (Int32 × Hp) :=
  some (s0, S)
set_option maxRecDepth 100000 in
set_option maxHeartbeats 4000000 in
theorem w_X8_judge_19 {E : Cx} {l : Launch} {res : Int32 × Hp} {ad : Nat → Nat} {fu : Nat} {o : Nat} {S : Hp} {s0 : Int32} (K : Kx E cX8_judge RX8 (rmd 6 0 0)) (X : Bx E l yX8_judge 3 (some .int) 0 0 ad (QI res)) (h : B_X8_judge_19 fu o S s0 = some res) : J E 0 0 19 [] [vI s0] S ad := by
  exact j_iret K X dX8_judge_19 h
def F_X8_judge (fu : Nat) (S : Hp) (o : Nat) (x1 : Int32) : Option (Int32 × Hp) :=
  (ob S 6 (some o)).bind fun _ =>
  b2 (F_X8_sheetWrong S o x1) fun v2 S2 =>
  if v2 = 0 then
    (ob S2 6 (some o)).bind fun _ =>
    b2 (F_X8_unlike fu S2 o x1) fun v12 S12 =>
    B_X8_judge_19 fu o S12 v12
  else
    B_X8_judge_19 fu o S2 v2
set_option maxRecDepth 100000 in
set_option maxHeartbeats 4000000 in
theorem w_X8_judge {E : Cx} {l : Launch} {res : Int32 × Hp} {ad : Nat → Nat} {fu : Nat} {S : Hp} {o : Nat} {x1 : Int32} (K : Kx E cX8_judge RX8 (rmd 6 0 0)) (X : Bx E l yX8_judge 3 (some .int) 0 0 ad (QI res)) (h : F_X8_judge fu S o x1 = some res) : J E 0 0 0 [(0, vR (some o)), (1, vI x1)] [] S ad := by
  refine j_aload_n K dX8_judge_0 rfl 0 rfl ?_
  refine j_iload_n K dX8_judge_1 rfl 1 rfl ?_
  obtain ⟨w2, ew2, h⟩ := bd h
  have ho2 := obS ew2
  obtain ⟨v2, S2, e2, h⟩ := bd2 h
  refine j_cI (st := []) K (r_V (vs := [vI x1]) (n := 1) (o := o) K (c_X8_sheetWrong e2) ho2 (by decide) rfl dX8_judge_2 z1168 z1170 zs57 z13 z1171 ⟨zd_X8_sheetWrong, rfl, rfl, rfl, ⟨Nat.le_of_ble_eq_true rfl, Nat.le_of_ble_eq_true rfl⟩, Nat.le_of_ble_eq_true rfl, Nat.le_of_ble_eq_true rfl, Nat.le_of_ble_eq_true rfl⟩) rfl ?_
  refine j_istore_n (lv' := [(2, vI v2), (0, vR (some o)), (1, vI x1)]) K dX8_judge_5 rfl X.2.2.1 (by decide) rfl ?_
  refine j_iload_n K dX8_judge_6 rfl 0 rfl ?_
  refine j_if_ne K dX8_judge_7 (fun c7 => ?_) (fun c7 => ?_)
  · replace h := ie c7 h
    refine j_iload_n K dX8_judge_18 rfl 0 rfl ?_
    exact j_sub [] rfl (w_X8_judge_19 K X h)
  · replace h := it c7 h
    refine j_aload_n K dX8_judge_10 rfl 1 rfl ?_
    refine j_iload_n K dX8_judge_11 rfl 2 rfl ?_
    obtain ⟨w12, ew12, h⟩ := bd h
    have ho12 := obS ew12
    obtain ⟨v12, S12, e12, h⟩ := bd2 h
    refine j_cI (st := []) K (r_V (vs := [vI x1]) (n := 1) (o := o) K (c_X8_unlike e12) ho12 (by decide) rfl dX8_judge_12 z1172 z1174 zs58 z13 z1175 ⟨zd_X8_unlike, rfl, rfl, rfl, ⟨Nat.le_of_ble_eq_true rfl, Nat.le_of_ble_eq_true rfl⟩, Nat.le_of_ble_eq_true rfl, Nat.le_of_ble_eq_true rfl, Nat.le_of_ble_eq_true rfl⟩) rfl ?_
    refine j_goto K dX8_judge_15 ?_
    exact j_sub [] rfl (w_X8_judge_19 K X h)
theorem c_X8_judge {l : Launch} {fu : Nat} {S : Hp} {o : Nat} {x1 : Int32} {res : Int32 × Hp} (h : F_X8_judge fu S o x1 = some res) : Ct l yX8_judge cX8_judge 3 (some .int) (rmd 6 0 0) 0 0 [vR (some o), vI x1] S (QI res) :=
  z_entry (by decide +kernel) (Nat.le_of_ble_eq_true rfl) (fun E ad K X => w_X8_judge K X h)

theorem dX8_kinds_0 : decode cX8_kinds 0 = .ok (.aload_n 0, 1) ∧ 0 + 1 = 1 := ⟨by decide +kernel, rfl⟩
theorem dX8_kinds_1 : decode cX8_kinds 1 = .ok (.iload_n 1, 1) ∧ 1 + 1 = 2 := ⟨by decide +kernel, rfl⟩
theorem dX8_kinds_2 : decode cX8_kinds 2 = .ok (.invokevirtual 253, 3) := by decide +kernel
theorem dX8_kinds_5 : decode cX8_kinds 5 = .ok (.istore 4, 2) ∧ 5 + 2 = 7 := ⟨by decide +kernel, rfl⟩
theorem dX8_kinds_7 : decode cX8_kinds 7 = .ok (.iload 4, 2) ∧ 7 + 2 = 9 := ⟨by decide +kernel, rfl⟩
theorem dX8_kinds_9 : decode cX8_kinds 9 = .ok (.ifCond .eq 6, 3) ∧ 9 + 3 = 12 ∧ ((9 : Nat) : Int) + (6) = ((15 : Nat) : Int) := ⟨by decide +kernel, rfl, by decide⟩
theorem dX8_kinds_12 : decode cX8_kinds 12 = .ok (.iload 4, 2) ∧ 12 + 2 = 14 := ⟨by decide +kernel, rfl⟩
theorem dX8_kinds_14 : decode cX8_kinds 14 = .ok (.ireturn, 1) := by decide +kernel
theorem dX8_kinds_15 : decode cX8_kinds 15 = .ok (.aload_n 0, 1) ∧ 15 + 1 = 16 := ⟨by decide +kernel, rfl⟩
theorem dX8_kinds_16 : decode cX8_kinds 16 = .ok (.iload_n 2, 1) ∧ 16 + 1 = 17 := ⟨by decide +kernel, rfl⟩
theorem dX8_kinds_17 : decode cX8_kinds 17 = .ok (.invokevirtual 182, 3) := by decide +kernel
theorem dX8_kinds_20 : decode cX8_kinds 20 = .ok (.ifCond .ne 6, 3) ∧ 20 + 3 = 23 ∧ ((20 : Nat) : Int) + (6) = ((26 : Nat) : Int) := ⟨by decide +kernel, rfl, by decide⟩
theorem dX8_kinds_23 : decode cX8_kinds 23 = .ok (.bipush (-5), 2) ∧ 23 + 2 = 25 := ⟨by decide +kernel, rfl⟩
theorem dX8_kinds_25 : decode cX8_kinds 25 = .ok (.ireturn, 1) := by decide +kernel
theorem dX8_kinds_26 : decode cX8_kinds 26 = .ok (.iload_n 3, 1) ∧ 26 + 1 = 27 := ⟨by decide +kernel, rfl⟩
theorem dX8_kinds_27 : decode cX8_kinds 27 = .ok (.iconst 0, 1) ∧ 27 + 1 = 28 := ⟨by decide +kernel, rfl⟩
theorem dX8_kinds_28 : decode cX8_kinds 28 = .ok (.iconst 1, 1) ∧ 28 + 1 = 29 := ⟨by decide +kernel, rfl⟩
theorem dX8_kinds_29 : decode cX8_kinds 29 = .ok (.invokestatic 87, 3) := by decide +kernel
theorem dX8_kinds_32 : decode cX8_kinds 32 = .ok (.ifCond .ne 6, 3) ∧ 32 + 3 = 35 ∧ ((32 : Nat) : Int) + (6) = ((38 : Nat) : Int) := ⟨by decide +kernel, rfl, by decide⟩
theorem dX8_kinds_35 : decode cX8_kinds 35 = .ok (.bipush (-7), 2) ∧ 35 + 2 = 37 := ⟨by decide +kernel, rfl⟩
theorem dX8_kinds_37 : decode cX8_kinds 37 = .ok (.ireturn, 1) := by decide +kernel
theorem dX8_kinds_38 : decode cX8_kinds 38 = .ok (.aload_n 0, 1) ∧ 38 + 1 = 39 := ⟨by decide +kernel, rfl⟩
theorem dX8_kinds_39 : decode cX8_kinds 39 = .ok (.getfield 7, 3) ∧ 39 + 3 = 42 := ⟨by decide +kernel, rfl⟩
theorem dX8_kinds_42 : decode cX8_kinds 42 = .ok (.iload_n 2, 1) ∧ 42 + 1 = 43 := ⟨by decide +kernel, rfl⟩
theorem dX8_kinds_43 : decode cX8_kinds 43 = .ok (.iaload, 1) ∧ 43 + 1 = 44 := ⟨by decide +kernel, rfl⟩
theorem dX8_kinds_44 : decode cX8_kinds 44 = .ok (.istore 5, 2) ∧ 44 + 2 = 46 := ⟨by decide +kernel, rfl⟩
theorem dX8_kinds_46 : decode cX8_kinds 46 = .ok (.aload_n 0, 1) ∧ 46 + 1 = 47 := ⟨by decide +kernel, rfl⟩
theorem dX8_kinds_47 : decode cX8_kinds 47 = .ok (.getfield 13, 3) ∧ 47 + 3 = 50 := ⟨by decide +kernel, rfl⟩
theorem dX8_kinds_50 : decode cX8_kinds 50 = .ok (.iload_n 2, 1) ∧ 50 + 1 = 51 := ⟨by decide +kernel, rfl⟩
theorem dX8_kinds_51 : decode cX8_kinds 51 = .ok (.iaload, 1) ∧ 51 + 1 = 52 := ⟨by decide +kernel, rfl⟩
theorem dX8_kinds_52 : decode cX8_kinds 52 = .ok (.istore 6, 2) ∧ 52 + 2 = 54 := ⟨by decide +kernel, rfl⟩
theorem dX8_kinds_54 : decode cX8_kinds 54 = .ok (.iconst 0, 1) ∧ 54 + 1 = 55 := ⟨by decide +kernel, rfl⟩
theorem dX8_kinds_55 : decode cX8_kinds 55 = .ok (.istore 7, 2) ∧ 55 + 2 = 57 := ⟨by decide +kernel, rfl⟩
theorem dX8_kinds_57 : decode cX8_kinds 57 = .ok (.iconst 0, 1) ∧ 57 + 1 = 58 := ⟨by decide +kernel, rfl⟩
theorem dX8_kinds_58 : decode cX8_kinds 58 = .ok (.istore 8, 2) ∧ 58 + 2 = 60 := ⟨by decide +kernel, rfl⟩
theorem dX8_kinds_60 : decode cX8_kinds 60 = .ok (.iload 8, 2) ∧ 60 + 2 = 62 := ⟨by decide +kernel, rfl⟩
theorem dX8_kinds_62 : decode cX8_kinds 62 = .ok (.iload_n 3, 1) ∧ 62 + 1 = 63 := ⟨by decide +kernel, rfl⟩
theorem dX8_kinds_63 : decode cX8_kinds 63 = .ok (.ifCond .ne 8, 3) ∧ 63 + 3 = 66 ∧ ((63 : Nat) : Int) + (8) = ((71 : Nat) : Int) := ⟨by decide +kernel, rfl, by decide⟩
theorem dX8_kinds_66 : decode cX8_kinds 66 = .ok (.bipush 6, 2) ∧ 66 + 2 = 68 := ⟨by decide +kernel, rfl⟩
theorem dX8_kinds_68 : decode cX8_kinds 68 = .ok (.goto 5, 3) ∧ ((68 : Nat) : Int) + (5) = ((73 : Nat) : Int) := ⟨by decide +kernel, by decide⟩
theorem dX8_kinds_71 : decode cX8_kinds 71 = .ok (.bipush 10, 2) ∧ 71 + 2 = 73 := ⟨by decide +kernel, rfl⟩
theorem dX8_kinds_73 : decode cX8_kinds 73 = .ok (.if_icmp .ge 66, 3) ∧ 73 + 3 = 76 ∧ ((73 : Nat) : Int) + (66) = ((139 : Nat) : Int) := ⟨by decide +kernel, rfl, by decide⟩
theorem dX8_kinds_76 : decode cX8_kinds 76 = .ok (.aload_n 0, 1) ∧ 76 + 1 = 77 := ⟨by decide +kernel, rfl⟩
theorem dX8_kinds_77 : decode cX8_kinds 77 = .ok (.getfield 7, 3) ∧ 77 + 3 = 80 := ⟨by decide +kernel, rfl⟩
theorem dX8_kinds_80 : decode cX8_kinds 80 = .ok (.iload_n 2, 1) ∧ 80 + 1 = 81 := ⟨by decide +kernel, rfl⟩
theorem dX8_kinds_81 : decode cX8_kinds 81 = .ok (.iload_n 3, 1) ∧ 81 + 1 = 82 := ⟨by decide +kernel, rfl⟩
theorem dX8_kinds_82 : decode cX8_kinds 82 = .ok (.ifCond .ne 8, 3) ∧ 82 + 3 = 85 ∧ ((82 : Nat) : Int) + (8) = ((90 : Nat) : Int) := ⟨by decide +kernel, rfl, by decide⟩
theorem dX8_kinds_85 : decode cX8_kinds 85 = .ok (.iload 8, 2) ∧ 85 + 2 = 87 := ⟨by decide +kernel, rfl⟩
theorem dX8_kinds_87 : decode cX8_kinds 87 = .ok (.goto 5, 3) ∧ ((87 : Nat) : Int) + (5) = ((92 : Nat) : Int) := ⟨by decide +kernel, by decide⟩
theorem dX8_kinds_90 : decode cX8_kinds 90 = .ok (.iload 5, 2) ∧ 90 + 2 = 92 := ⟨by decide +kernel, rfl⟩
theorem dX8_kinds_92 : decode cX8_kinds 92 = .ok (.iastore, 1) ∧ 92 + 1 = 93 := ⟨by decide +kernel, rfl⟩
theorem dX8_kinds_93 : decode cX8_kinds 93 = .ok (.aload_n 0, 1) ∧ 93 + 1 = 94 := ⟨by decide +kernel, rfl⟩
theorem dX8_kinds_94 : decode cX8_kinds 94 = .ok (.getfield 13, 3) ∧ 94 + 3 = 97 := ⟨by decide +kernel, rfl⟩
theorem dX8_kinds_97 : decode cX8_kinds 97 = .ok (.iload_n 2, 1) ∧ 97 + 1 = 98 := ⟨by decide +kernel, rfl⟩
theorem dX8_kinds_98 : decode cX8_kinds 98 = .ok (.iload_n 3, 1) ∧ 98 + 1 = 99 := ⟨by decide +kernel, rfl⟩
theorem dX8_kinds_99 : decode cX8_kinds 99 = .ok (.iconst 1, 1) ∧ 99 + 1 = 100 := ⟨by decide +kernel, rfl⟩
theorem dX8_kinds_100 : decode cX8_kinds 100 = .ok (.if_icmp .ne 8, 3) ∧ 100 + 3 = 103 ∧ ((100 : Nat) : Int) + (8) = ((108 : Nat) : Int) := ⟨by decide +kernel, rfl, by decide⟩
theorem dX8_kinds_103 : decode cX8_kinds 103 = .ok (.iload 8, 2) ∧ 103 + 2 = 105 := ⟨by decide +kernel, rfl⟩
theorem dX8_kinds_105 : decode cX8_kinds 105 = .ok (.goto 5, 3) ∧ ((105 : Nat) : Int) + (5) = ((110 : Nat) : Int) := ⟨by decide +kernel, by decide⟩
theorem dX8_kinds_108 : decode cX8_kinds 108 = .ok (.iload 6, 2) ∧ 108 + 2 = 110 := ⟨by decide +kernel, rfl⟩
theorem dX8_kinds_110 : decode cX8_kinds 110 = .ok (.iastore, 1) ∧ 110 + 1 = 111 := ⟨by decide +kernel, rfl⟩
theorem dX8_kinds_111 : decode cX8_kinds 111 = .ok (.iload 7, 2) ∧ 111 + 2 = 113 := ⟨by decide +kernel, rfl⟩
theorem dX8_kinds_113 : decode cX8_kinds 113 = .ok (.aload_n 0, 1) ∧ 113 + 1 = 114 := ⟨by decide +kernel, rfl⟩
theorem dX8_kinds_114 : decode cX8_kinds 114 = .ok (.iload_n 1, 1) ∧ 114 + 1 = 115 := ⟨by decide +kernel, rfl⟩
theorem dX8_kinds_115 : decode cX8_kinds 115 = .ok (.invokevirtual 256, 3) := by decide +kernel
theorem dX8_kinds_118 : decode cX8_kinds 118 = .ok (.iconst (-1), 1) ∧ 118 + 1 = 119 := ⟨by decide +kernel, rfl⟩
theorem dX8_kinds_119 : decode cX8_kinds 119 = .ok (.if_icmp .ne 10, 3) ∧ 119 + 3 = 122 ∧ ((119 : Nat) : Int) + (10) = ((129 : Nat) : Int) := ⟨by decide +kernel, rfl, by decide⟩
theorem dX8_kinds_122 : decode cX8_kinds 122 = .ok (.iconst 1, 1) ∧ 122 + 1 = 123 := ⟨by decide +kernel, rfl⟩
theorem dX8_kinds_123 : decode cX8_kinds 123 = .ok (.iload 8, 2) ∧ 123 + 2 = 125 := ⟨by decide +kernel, rfl⟩
theorem dX8_kinds_125 : decode cX8_kinds 125 = .ok (.ishl, 1) ∧ 125 + 1 = 126 := ⟨by decide +kernel, rfl⟩
theorem dX8_kinds_126 : decode cX8_kinds 126 = .ok (.goto 4, 3) ∧ ((126 : Nat) : Int) + (4) = ((130 : Nat) : Int) := ⟨by decide +kernel, by decide⟩
theorem dX8_kinds_129 : decode cX8_kinds 129 = .ok (.iconst 0, 1) ∧ 129 + 1 = 130 := ⟨by decide +kernel, rfl⟩
theorem dX8_kinds_130 : decode cX8_kinds 130 = .ok (.ior, 1) ∧ 130 + 1 = 131 := ⟨by decide +kernel, rfl⟩
theorem dX8_kinds_131 : decode cX8_kinds 131 = .ok (.istore 7, 2) ∧ 131 + 2 = 133 := ⟨by decide +kernel, rfl⟩
theorem dX8_kinds_133 : decode cX8_kinds 133 = .ok (.iinc 8 1, 3) ∧ 133 + 3 = 136 := ⟨by decide +kernel, rfl⟩
theorem dX8_kinds_136 : decode cX8_kinds 136 = .ok (.goto (-76), 3) ∧ ((136 : Nat) : Int) + (-76) = ((60 : Nat) : Int) := ⟨by decide +kernel, by decide⟩
theorem dX8_kinds_139 : decode cX8_kinds 139 = .ok (.aload_n 0, 1) ∧ 139 + 1 = 140 := ⟨by decide +kernel, rfl⟩
theorem dX8_kinds_140 : decode cX8_kinds 140 = .ok (.getfield 7, 3) ∧ 140 + 3 = 143 := ⟨by decide +kernel, rfl⟩
theorem dX8_kinds_143 : decode cX8_kinds 143 = .ok (.iload_n 2, 1) ∧ 143 + 1 = 144 := ⟨by decide +kernel, rfl⟩
theorem dX8_kinds_144 : decode cX8_kinds 144 = .ok (.iload 5, 2) ∧ 144 + 2 = 146 := ⟨by decide +kernel, rfl⟩
theorem dX8_kinds_146 : decode cX8_kinds 146 = .ok (.iastore, 1) ∧ 146 + 1 = 147 := ⟨by decide +kernel, rfl⟩
theorem dX8_kinds_147 : decode cX8_kinds 147 = .ok (.aload_n 0, 1) ∧ 147 + 1 = 148 := ⟨by decide +kernel, rfl⟩
theorem dX8_kinds_148 : decode cX8_kinds 148 = .ok (.getfield 13, 3) ∧ 148 + 3 = 151 := ⟨by decide +kernel, rfl⟩
theorem dX8_kinds_151 : decode cX8_kinds 151 = .ok (.iload_n 2, 1) ∧ 151 + 1 = 152 := ⟨by decide +kernel, rfl⟩
theorem dX8_kinds_152 : decode cX8_kinds 152 = .ok (.iload 6, 2) ∧ 152 + 2 = 154 := ⟨by decide +kernel, rfl⟩
theorem dX8_kinds_154 : decode cX8_kinds 154 = .ok (.iastore, 1) ∧ 154 + 1 = 155 := ⟨by decide +kernel, rfl⟩
theorem dX8_kinds_155 : decode cX8_kinds 155 = .ok (.iload 7, 2) ∧ 155 + 2 = 157 := ⟨by decide +kernel, rfl⟩
theorem dX8_kinds_157 : decode cX8_kinds 157 = .ok (.ireturn, 1) := by decide +kernel
def B_X8_kinds_130 (k60 : Hp → Int32 → Int32 → Option (Int32 × Hp)) (fu : Nat) (o : Nat) (S : Hp) (x1 : Int32) (x2 : Int32) (x3 : Int32) (x5 : Int32) (x6 : Int32) (x8 : Int32) (s0 : Int32) (s1 : Int32) : Option (Int32 × Hp) :=
  k60 S (s1 ||| s0) (x8 + (1 : Int32))
set_option maxRecDepth 100000 in
set_option maxHeartbeats 4000000 in
theorem w_X8_kinds_130 {E : Cx} {l : Launch} {res : Int32 × Hp} {ad : Nat → Nat} {k60 : Hp → Int32 → Int32 → Option (Int32 × Hp)} {fu : Nat} {o : Nat} {S : Hp} {x1 : Int32} {x2 : Int32} {x3 : Int32} {x5 : Int32} {x6 : Int32} {x8 : Int32} {s0 : Int32} {s1 : Int32} (K : Kx E cX8_kinds RX8 (rmd 6 0 0)) (X : Bx E l yX8_kinds 9 (some .int) 0 0 ad (QI res)) (hk60 : ∀ (S : Hp) (x7 : Int32) (x8 : Int32), k60 S x7 x8 = some res → J E 0 0 60 [(0, vR (some o)), (1, vI x1), (2, vI x2), (3, vI x3), (5, vI x5), (6, vI x6), (7, vI x7), (8, vI x8)] [] S ad) (h : B_X8_kinds_130 k60 fu o S x1 x2 x3 x5 x6 x8 s0 s1 = some res) : J E 0 0 130 [(0, vR (some o)), (1, vI x1), (2, vI x2), (3, vI x3), (5, vI x5), (6, vI x6), (8, vI x8)] [vI s0, vI s1] S ad := by
  refine j_ior K dX8_kinds_130 ?_
  refine j_istore (lv' := [(7, vI (s1 ||| s0)), (0, vR (some o)), (1, vI x1), (2, vI x2), (3, vI x3), (5, vI x5), (6, vI x6), (8, vI x8)]) K dX8_kinds_131 X.2.2.1 (by decide) rfl ?_
  refine j_iinc (q := 7) (v := (x8 + (1 : Int32))) (lv' := [(8, vI (x8 + (1 : Int32))), (7, vI (s1 ||| s0)), (0, vR (some o)), (1, vI x1), (2, vI x2), (3, vI x3), (5, vI x5), (6, vI x6)]) K dX8_kinds_133 rfl rfl X.2.2.1 (by decide) rfl ?_
  refine j_goto K dX8_kinds_136 ?_
  exact j_sub [2, 3, 4, 5, 6, 7, 1, 0] rfl (hk60 _ _ _ h)
def B_X8_kinds_110 (k60 : Hp → Int32 → Int32 → Option (Int32 × Hp)) (fu : Nat) (o : Nat) (S : Hp) (x1 : Int32) (x2 : Int32) (x3 : Int32) (x5 : Int32) (x6 : Int32) (x7 : Int32) (x8 : Int32) (s0 : Int32) (s1 : Int32) (s2 : Option Nat) : Option (Int32 × Hp) :=
  (aP S s2 s1 s0).bind fun S110 =>
  (ob S110 6 (some o)).bind fun _ =>
  b2 (F_X8_unlike fu S110 o x1) fun v115 S115 =>
  if v115 = (-1 : Int32) then
    B_X8_kinds_130 k60 fu o S115 x1 x2 x3 x5 x6 x8 ((1 : Int32) <<< (x8 &&& 31)) x7
  else
    B_X8_kinds_130 k60 fu o S115 x1 x2 x3 x5 x6 x8 (0 : Int32) x7
set_option maxRecDepth 100000 in
set_option maxHeartbeats 4000000 in
theorem w_X8_kinds_110 {E : Cx} {l : Launch} {res : Int32 × Hp} {ad : Nat → Nat} {k60 : Hp → Int32 → Int32 → Option (Int32 × Hp)} {fu : Nat} {o : Nat} {S : Hp} {x1 : Int32} {x2 : Int32} {x3 : Int32} {x5 : Int32} {x6 : Int32} {x7 : Int32} {x8 : Int32} {s0 : Int32} {s1 : Int32} {s2 : Option Nat} (K : Kx E cX8_kinds RX8 (rmd 6 0 0)) (X : Bx E l yX8_kinds 9 (some .int) 0 0 ad (QI res)) (hk60 : ∀ (S : Hp) (x7 : Int32) (x8 : Int32), k60 S x7 x8 = some res → J E 0 0 60 [(0, vR (some o)), (1, vI x1), (2, vI x2), (3, vI x3), (5, vI x5), (6, vI x6), (7, vI x7), (8, vI x8)] [] S ad) (h : B_X8_kinds_110 k60 fu o S x1 x2 x3 x5 x6 x7 x8 s0 s1 s2 = some res) : J E 0 0 110 [(0, vR (some o)), (1, vI x1), (2, vI x2), (3, vI x3), (5, vI x5), (6, vI x6), (7, vI x7), (8, vI x8)] [vI s0, vI s1, vR s2] S ad := by
  obtain ⟨S110, e110, h⟩ := bd h
  refine j_aP K dX8_kinds_110 e110 ?_
  refine j_iload K dX8_kinds_111 6 rfl ?_
  refine j_aload_n K dX8_kinds_113 rfl 0 rfl ?_
  refine j_iload_n K dX8_kinds_114 rfl 1 rfl ?_
  obtain ⟨w115, ew115, h⟩ := bd h
  have ho115 := obS ew115
  obtain ⟨v115, S115, e115, h⟩ := bd2 h
  refine j_cI (st := [vI x7]) K (r_V (vs := [vI x1]) (n := 1) (o := o) K (c_X8_unlike e115) ho115 (by decide) rfl dX8_kinds_115 z1172 z1174 zs58 z13 z1175 ⟨zd_X8_unlike, rfl, rfl, rfl, ⟨Nat.le_of_ble_eq_true rfl, Nat.le_of_ble_eq_true rfl⟩, Nat.le_of_ble_eq_true rfl, Nat.le_of_ble_eq_true rfl, Nat.le_of_ble_eq_true rfl⟩) rfl ?_
  refine j_iconst (v := (-1 : Int32)) K dX8_kinds_118 (by decide) ?_
  refine j_icmp_ne K dX8_kinds_119 (fun c119 => ?_) (fun c119 => ?_)
  · replace h := ie c119 h
    refine j_iconst (v := (0 : Int32)) K dX8_kinds_129 (by decide) ?_
    exact j_sub [0, 1, 2, 3, 4, 5, 7] rfl (w_X8_kinds_130 K X hk60 h)
  · replace h := it c119 h
    refine j_iconst (v := (1 : Int32)) K dX8_kinds_122 (by decide) ?_
    refine j_iload K dX8_kinds_123 7 rfl ?_
    refine j_ishl K dX8_kinds_125 ?_
    refine j_goto K dX8_kinds_126 ?_
    exact j_sub [0, 1, 2, 3, 4, 5, 7] rfl (w_X8_kinds_130 K X hk60 h)
def B_X8_kinds_92 (k60 : Hp → Int32 → Int32 → Option (Int32 × Hp)) (fu : Nat) (o : Nat) (S : Hp) (x1 : Int32) (x2 : Int32) (x3 : Int32) (x5 : Int32) (x6 : Int32) (x7 : Int32) (x8 : Int32) (s0 : Int32) (s1 : Int32) (s2 : Option Nat) : Option (Int32 × Hp) :=
  (aP S s2 s1 s0).bind fun S92 =>
  (gR S92 (some o) 6 2).bind fun v94 =>
  if x3 = (1 : Int32) then
    B_X8_kinds_110 k60 fu o S92 x1 x2 x3 x5 x6 x7 x8 x8 x2 v94
  else
    B_X8_kinds_110 k60 fu o S92 x1 x2 x3 x5 x6 x7 x8 x6 x2 v94
set_option maxRecDepth 100000 in
set_option maxHeartbeats 4000000 in
theorem w_X8_kinds_92 {E : Cx} {l : Launch} {res : Int32 × Hp} {ad : Nat → Nat} {k60 : Hp → Int32 → Int32 → Option (Int32 × Hp)} {fu : Nat} {o : Nat} {S : Hp} {x1 : Int32} {x2 : Int32} {x3 : Int32} {x5 : Int32} {x6 : Int32} {x7 : Int32} {x8 : Int32} {s0 : Int32} {s1 : Int32} {s2 : Option Nat} (K : Kx E cX8_kinds RX8 (rmd 6 0 0)) (X : Bx E l yX8_kinds 9 (some .int) 0 0 ad (QI res)) (hk60 : ∀ (S : Hp) (x7 : Int32) (x8 : Int32), k60 S x7 x8 = some res → J E 0 0 60 [(0, vR (some o)), (1, vI x1), (2, vI x2), (3, vI x3), (5, vI x5), (6, vI x6), (7, vI x7), (8, vI x8)] [] S ad) (h : B_X8_kinds_92 k60 fu o S x1 x2 x3 x5 x6 x7 x8 s0 s1 s2 = some res) : J E 0 0 92 [(0, vR (some o)), (1, vI x1), (2, vI x2), (3, vI x3), (5, vI x5), (6, vI x6), (7, vI x7), (8, vI x8)] [vI s0, vI s1, vR s2] S ad := by
  obtain ⟨S92, e92, h⟩ := bd h
  refine j_aP K dX8_kinds_92 e92 ?_
  refine j_aload_n K dX8_kinds_93 rfl 0 rfl ?_
  obtain ⟨v94, e94, h⟩ := bd h
  refine fgX8_13 K dX8_kinds_94 e94 ?_
  refine j_iload_n K dX8_kinds_97 rfl 2 rfl ?_
  refine j_iload_n K dX8_kinds_98 rfl 3 rfl ?_
  refine j_iconst (v := (1 : Int32)) K dX8_kinds_99 (by decide) ?_
  refine j_icmp_ne K dX8_kinds_100 (fun c100 => ?_) (fun c100 => ?_)
  · replace h := ie c100 h
    refine j_iload K dX8_kinds_108 5 rfl ?_
    exact w_X8_kinds_110 K X hk60 h
  · replace h := it c100 h
    refine j_iload K dX8_kinds_103 7 rfl ?_
    refine j_goto K dX8_kinds_105 ?_
    exact w_X8_kinds_110 K X hk60 h
def B_X8_kinds_73 (k60 : Hp → Int32 → Int32 → Option (Int32 × Hp)) (fu : Nat) (o : Nat) (S : Hp) (x1 : Int32) (x2 : Int32) (x3 : Int32) (x5 : Int32) (x6 : Int32) (x7 : Int32) (x8 : Int32) (s0 : Int32) (s1 : Int32) : Option (Int32 × Hp) :=
  if s0 ≤ s1 then
    (gR S (some o) 6 1).bind fun v140 =>
    (aP S v140 x2 x5).bind fun S146 =>
    (gR S146 (some o) 6 2).bind fun v148 =>
    (aP S146 v148 x2 x6).bind fun S154 =>
    some (x7, S154)
  else
    (gR S (some o) 6 1).bind fun v77 =>
    if x3 = 0 then
      B_X8_kinds_92 k60 fu o S x1 x2 x3 x5 x6 x7 x8 x8 x2 v77
    else
      B_X8_kinds_92 k60 fu o S x1 x2 x3 x5 x6 x7 x8 x5 x2 v77
set_option maxRecDepth 100000 in
set_option maxHeartbeats 4000000 in
theorem w_X8_kinds_73 {E : Cx} {l : Launch} {res : Int32 × Hp} {ad : Nat → Nat} {k60 : Hp → Int32 → Int32 → Option (Int32 × Hp)} {fu : Nat} {o : Nat} {S : Hp} {x1 : Int32} {x2 : Int32} {x3 : Int32} {x5 : Int32} {x6 : Int32} {x7 : Int32} {x8 : Int32} {s0 : Int32} {s1 : Int32} (K : Kx E cX8_kinds RX8 (rmd 6 0 0)) (X : Bx E l yX8_kinds 9 (some .int) 0 0 ad (QI res)) (hk60 : ∀ (S : Hp) (x7 : Int32) (x8 : Int32), k60 S x7 x8 = some res → J E 0 0 60 [(0, vR (some o)), (1, vI x1), (2, vI x2), (3, vI x3), (5, vI x5), (6, vI x6), (7, vI x7), (8, vI x8)] [] S ad) (h : B_X8_kinds_73 k60 fu o S x1 x2 x3 x5 x6 x7 x8 s0 s1 = some res) : J E 0 0 73 [(0, vR (some o)), (1, vI x1), (2, vI x2), (3, vI x3), (5, vI x5), (6, vI x6), (7, vI x7), (8, vI x8)] [vI s0, vI s1] S ad := by
  refine j_icmp_ge K dX8_kinds_73 (fun c73 => ?_) (fun c73 => ?_)
  · replace h := it c73 h
    refine j_aload_n K dX8_kinds_139 rfl 0 rfl ?_
    obtain ⟨v140, e140, h⟩ := bd h
    refine fgX8_7 K dX8_kinds_140 e140 ?_
    refine j_iload_n K dX8_kinds_143 rfl 2 rfl ?_
    refine j_iload K dX8_kinds_144 4 rfl ?_
    obtain ⟨S146, e146, h⟩ := bd h
    refine j_aP K dX8_kinds_146 e146 ?_
    refine j_aload_n K dX8_kinds_147 rfl 0 rfl ?_
    obtain ⟨v148, e148, h⟩ := bd h
    refine fgX8_13 K dX8_kinds_148 e148 ?_
    refine j_iload_n K dX8_kinds_151 rfl 2 rfl ?_
    refine j_iload K dX8_kinds_152 5 rfl ?_
    obtain ⟨S154, e154, h⟩ := bd h
    refine j_aP K dX8_kinds_154 e154 ?_
    refine j_iload K dX8_kinds_155 6 rfl ?_
    exact j_iret K X dX8_kinds_157 h
  · replace h := ie c73 h
    refine j_aload_n K dX8_kinds_76 rfl 0 rfl ?_
    obtain ⟨v77, e77, h⟩ := bd h
    refine fgX8_7 K dX8_kinds_77 e77 ?_
    refine j_iload_n K dX8_kinds_80 rfl 2 rfl ?_
    refine j_iload_n K dX8_kinds_81 rfl 3 rfl ?_
    refine j_if_ne K dX8_kinds_82 (fun c82 => ?_) (fun c82 => ?_)
    · replace h := ie c82 h
      refine j_iload K dX8_kinds_90 4 rfl ?_
      exact w_X8_kinds_92 K X hk60 h
    · replace h := it c82 h
      refine j_iload K dX8_kinds_85 7 rfl ?_
      refine j_goto K dX8_kinds_87 ?_
      exact w_X8_kinds_92 K X hk60 h
def L_X8_kinds_60 (k60 : Hp → Int32 → Int32 → Option (Int32 × Hp)) (fu : Nat) (o : Nat) (x1 : Int32) (x2 : Int32) (x3 : Int32) (x5 : Int32) (x6 : Int32) (S : Hp) (x7 : Int32) (x8 : Int32) : Option (Int32 × Hp) :=
  if x3 = 0 then
    B_X8_kinds_73 k60 fu o S x1 x2 x3 x5 x6 x7 x8 (6 : Int32) x8
  else
    B_X8_kinds_73 k60 fu o S x1 x2 x3 x5 x6 x7 x8 (10 : Int32) x8
set_option maxRecDepth 100000 in
set_option maxHeartbeats 4000000 in
theorem wl_X8_kinds_60 {E : Cx} {l : Launch} {res : Int32 × Hp} {ad : Nat → Nat} {k60 : Hp → Int32 → Int32 → Option (Int32 × Hp)} {fu : Nat} {o : Nat} {S : Hp} {x1 : Int32} {x2 : Int32} {x3 : Int32} {x5 : Int32} {x6 : Int32} {x7 : Int32} {x8 : Int32} (K : Kx E cX8_kinds RX8 (rmd 6 0 0)) (X : Bx E l yX8_kinds 9 (some .int) 0 0 ad (QI res)) (hk60 : ∀ (S : Hp) (x7 : Int32) (x8 : Int32), k60 S x7 x8 = some res → J E 0 0 60 [(0, vR (some o)), (1, vI x1), (2, vI x2), (3, vI x3), (5, vI x5), (6, vI x6), (7, vI x7), (8, vI x8)] [] S ad) (h : L_X8_kinds_60 k60 fu o x1 x2 x3 x5 x6 S x7 x8 = some res) : J E 0 0 60 [(0, vR (some o)), (1, vI x1), (2, vI x2), (3, vI x3), (5, vI x5), (6, vI x6), (7, vI x7), (8, vI x8)] [] S ad := by
  refine j_iload K dX8_kinds_60 7 rfl ?_
  refine j_iload_n K dX8_kinds_62 rfl 3 rfl ?_
  refine j_if_ne K dX8_kinds_63 (fun c63 => ?_) (fun c63 => ?_)
  · replace h := ie c63 h
    refine j_bipush (v := (10 : Int32)) K dX8_kinds_71 (by decide) ?_
    exact w_X8_kinds_73 K X hk60 h
  · replace h := it c63 h
    refine j_bipush (v := (6 : Int32)) K dX8_kinds_66 (by decide) ?_
    refine j_goto K dX8_kinds_68 ?_
    exact w_X8_kinds_73 K X hk60 h
def B_X8_kinds_60 (fu : Nat) (o : Nat) (x1 : Int32) (x2 : Int32) (x3 : Int32) (x5 : Int32) (x6 : Int32) : Nat → Hp → Int32 → Int32 → Option (Int32 × Hp)
  | 0 => fun _ _ _ => none
  | n + 1 => L_X8_kinds_60 (B_X8_kinds_60 fu o x1 x2 x3 x5 x6 n) fu o x1 x2 x3 x5 x6
theorem w_X8_kinds_60 {E : Cx} {l : Launch} {res : Int32 × Hp} {ad : Nat → Nat} {fu : Nat} {o : Nat} {x1 : Int32} {x2 : Int32} {x3 : Int32} {x5 : Int32} {x6 : Int32} (K : Kx E cX8_kinds RX8 (rmd 6 0 0)) (X : Bx E l yX8_kinds 9 (some .int) 0 0 ad (QI res)) : ∀ (n : Nat) (S : Hp) (x7 : Int32) (x8 : Int32), B_X8_kinds_60 fu o x1 x2 x3 x5 x6 n S x7 x8 = some res → J E 0 0 60 [(0, vR (some o)), (1, vI x1), (2, vI x2), (3, vI x3), (5, vI x5), (6, vI x6), (7, vI x7), (8, vI x8)] [] S ad := by
  intro n
  induction n with
  | zero =>
    intro S x7 x8 h
    cases h
  | succ n ih =>
    intro S x7 x8 h
    exact wl_X8_kinds_60 K X ih h
def F_X8_kinds (fu : Nat) (S : Hp) (o : Nat) (x1 : Int32) (x2 : Int32) (x3 : Int32) : Option (Int32 × Hp) :=
  (ob S 6 (some o)).bind fun _ =>
  b2 (F_X8_sheetWrong S o x1) fun v2 S2 =>
  if v2 = 0 then
    (ob S2 6 (some o)).bind fun _ =>
    b2 (F_X8_isOne S2 o x2) fun v17 S17 =>
    if v17 = 0 then
      some ((-5 : Int32), S17)
    else
      b2 (F_X8_in S17 x3 (0 : Int32) (1 : Int32)) fun v29 S29 =>
      if v29 = 0 then
        some ((-7 : Int32), S29)
      else
        (gR S29 (some o) 6 1).bind fun v39 =>
        (aG S29 v39 x2).bind fun v43 =>
        (gR S29 (some o) 6 2).bind fun v47 =>
        (aG S29 v47 x2).bind fun v51 =>
        B_X8_kinds_60 fu o x1 x2 x3 v43 v51 fu S29 (0 : Int32) (0 : Int32)
  else
    some (v2, S2)
set_option maxRecDepth 100000 in
set_option maxHeartbeats 4000000 in
theorem w_X8_kinds {E : Cx} {l : Launch} {res : Int32 × Hp} {ad : Nat → Nat} {fu : Nat} {S : Hp} {o : Nat} {x1 : Int32} {x2 : Int32} {x3 : Int32} (K : Kx E cX8_kinds RX8 (rmd 6 0 0)) (X : Bx E l yX8_kinds 9 (some .int) 0 0 ad (QI res)) (h : F_X8_kinds fu S o x1 x2 x3 = some res) : J E 0 0 0 [(0, vR (some o)), (1, vI x1), (2, vI x2), (3, vI x3)] [] S ad := by
  refine j_aload_n K dX8_kinds_0 rfl 0 rfl ?_
  refine j_iload_n K dX8_kinds_1 rfl 1 rfl ?_
  obtain ⟨w2, ew2, h⟩ := bd h
  have ho2 := obS ew2
  obtain ⟨v2, S2, e2, h⟩ := bd2 h
  refine j_cI (st := []) K (r_V (vs := [vI x1]) (n := 1) (o := o) K (c_X8_sheetWrong e2) ho2 (by decide) rfl dX8_kinds_2 z1168 z1170 zs57 z13 z1171 ⟨zd_X8_sheetWrong, rfl, rfl, rfl, ⟨Nat.le_of_ble_eq_true rfl, Nat.le_of_ble_eq_true rfl⟩, Nat.le_of_ble_eq_true rfl, Nat.le_of_ble_eq_true rfl, Nat.le_of_ble_eq_true rfl⟩) rfl ?_
  refine j_istore (lv' := [(4, vI v2), (0, vR (some o)), (1, vI x1), (2, vI x2), (3, vI x3)]) K dX8_kinds_5 X.2.2.1 (by decide) rfl ?_
  refine j_iload K dX8_kinds_7 0 rfl ?_
  refine j_if_eq K dX8_kinds_9 (fun c9 => ?_) (fun c9 => ?_)
  · replace h := it c9 h
    refine j_aload_n K dX8_kinds_15 rfl 1 rfl ?_
    refine j_iload_n K dX8_kinds_16 rfl 3 rfl ?_
    obtain ⟨w17, ew17, h⟩ := bd h
    have ho17 := obS ew17
    obtain ⟨v17, S17, e17, h⟩ := bd2 h
    refine j_cI (st := []) K (r_V (vs := [vI x2]) (n := 1) (o := o) K (c_X8_isOne e17) ho17 (by decide) rfl dX8_kinds_17 z1003 z1005 zs35 z13 z1006 ⟨zd_X8_isOne, rfl, rfl, rfl, ⟨Nat.le_of_ble_eq_true rfl, Nat.le_of_ble_eq_true rfl⟩, Nat.le_of_ble_eq_true rfl, Nat.le_of_ble_eq_true rfl, Nat.le_of_ble_eq_true rfl⟩) rfl ?_
    refine j_if_ne K dX8_kinds_20 (fun c20 => ?_) (fun c20 => ?_)
    · replace h := ie c20 h
      refine j_iload_n K dX8_kinds_26 rfl 4 rfl ?_
      refine j_iconst (v := (0 : Int32)) K dX8_kinds_27 (by decide) ?_
      refine j_iconst (v := (1 : Int32)) K dX8_kinds_28 (by decide) ?_
      obtain ⟨v29, S29, e29, h⟩ := bd2 h
      refine j_cI (st := []) K (r_S (vs := [vI x3, vI (0 : Int32), vI (1 : Int32)]) (n := 3) K (c_X8_in e29) dX8_kinds_29 z812 z813 z13 z814 ⟨zd_X8_in, rfl, rfl, rfl, ⟨Nat.le_of_ble_eq_true rfl, Nat.le_of_ble_eq_true rfl⟩, Nat.le_of_ble_eq_true rfl, Nat.le_of_ble_eq_true rfl, Nat.le_of_ble_eq_true rfl⟩) rfl ?_
      refine j_if_ne K dX8_kinds_32 (fun c32 => ?_) (fun c32 => ?_)
      · replace h := ie c32 h
        refine j_aload_n K dX8_kinds_38 rfl 1 rfl ?_
        obtain ⟨v39, e39, h⟩ := bd h
        refine fgX8_7 K dX8_kinds_39 e39 ?_
        refine j_iload_n K dX8_kinds_42 rfl 3 rfl ?_
        obtain ⟨v43, e43, h⟩ := bd h
        refine j_aG K dX8_kinds_43 e43 ?_
        refine j_istore (lv' := [(5, vI v43), (4, vI v2), (0, vR (some o)), (1, vI x1), (2, vI x2), (3, vI x3)]) K dX8_kinds_44 X.2.2.1 (by decide) rfl ?_
        refine j_aload_n K dX8_kinds_46 rfl 2 rfl ?_
        obtain ⟨v47, e47, h⟩ := bd h
        refine fgX8_13 K dX8_kinds_47 e47 ?_
        refine j_iload_n K dX8_kinds_50 rfl 4 rfl ?_
        obtain ⟨v51, e51, h⟩ := bd h
        refine j_aG K dX8_kinds_51 e51 ?_
        refine j_istore (lv' := [(6, vI v51), (5, vI v43), (4, vI v2), (0, vR (some o)), (1, vI x1), (2, vI x2), (3, vI x3)]) K dX8_kinds_52 X.2.2.1 (by decide) rfl ?_
        refine j_iconst (v := (0 : Int32)) K dX8_kinds_54 (by decide) ?_
        refine j_istore (lv' := [(7, vI (0 : Int32)), (6, vI v51), (5, vI v43), (4, vI v2), (0, vR (some o)), (1, vI x1), (2, vI x2), (3, vI x3)]) K dX8_kinds_55 X.2.2.1 (by decide) rfl ?_
        refine j_iconst (v := (0 : Int32)) K dX8_kinds_57 (by decide) ?_
        refine j_istore (lv' := [(8, vI (0 : Int32)), (7, vI (0 : Int32)), (6, vI v51), (5, vI v43), (4, vI v2), (0, vR (some o)), (1, vI x1), (2, vI x2), (3, vI x3)]) K dX8_kinds_58 X.2.2.1 (by decide) rfl ?_
        exact j_sub [5, 6, 7, 8, 3, 2, 1, 0] rfl (w_X8_kinds_60 K X _ _ _ _ h)
      · replace h := it c32 h
        refine j_bipush (v := (-7 : Int32)) K dX8_kinds_35 (by decide) ?_
        exact j_iret K X dX8_kinds_37 h
    · replace h := it c20 h
      refine j_bipush (v := (-5 : Int32)) K dX8_kinds_23 (by decide) ?_
      exact j_iret K X dX8_kinds_25 h
  · replace h := ie c9 h
    refine j_iload K dX8_kinds_12 0 rfl ?_
    exact j_iret K X dX8_kinds_14 h
theorem c_X8_kinds {l : Launch} {fu : Nat} {S : Hp} {o : Nat} {x1 : Int32} {x2 : Int32} {x3 : Int32} {res : Int32 × Hp} (h : F_X8_kinds fu S o x1 x2 x3 = some res) : Ct l yX8_kinds cX8_kinds 9 (some .int) (rmd 6 0 0) 0 0 [vR (some o), vI x1, vI x2, vI x3] S (QI res) :=
  z_entry (by decide +kernel) (Nat.le_of_ble_eq_true rfl) (fun E ad K X => w_X8_kinds K X h)

theorem dX8_prides_0 : decode cX8_prides 0 = .ok (.aload_n 0, 1) ∧ 0 + 1 = 1 := ⟨by decide +kernel, rfl⟩
theorem dX8_prides_1 : decode cX8_prides 1 = .ok (.iload_n 1, 1) ∧ 1 + 1 = 2 := ⟨by decide +kernel, rfl⟩
theorem dX8_prides_2 : decode cX8_prides 2 = .ok (.invokevirtual 253, 3) := by decide +kernel
theorem dX8_prides_5 : decode cX8_prides 5 = .ok (.istore 4, 2) ∧ 5 + 2 = 7 := ⟨by decide +kernel, rfl⟩
theorem dX8_prides_7 : decode cX8_prides 7 = .ok (.iload 4, 2) ∧ 7 + 2 = 9 := ⟨by decide +kernel, rfl⟩
theorem dX8_prides_9 : decode cX8_prides 9 = .ok (.ifCond .eq 6, 3) ∧ 9 + 3 = 12 ∧ ((9 : Nat) : Int) + (6) = ((15 : Nat) : Int) := ⟨by decide +kernel, rfl, by decide⟩
theorem dX8_prides_12 : decode cX8_prides 12 = .ok (.iload 4, 2) ∧ 12 + 2 = 14 := ⟨by decide +kernel, rfl⟩
theorem dX8_prides_14 : decode cX8_prides 14 = .ok (.ireturn, 1) := by decide +kernel
theorem dX8_prides_15 : decode cX8_prides 15 = .ok (.aload_n 0, 1) ∧ 15 + 1 = 16 := ⟨by decide +kernel, rfl⟩
theorem dX8_prides_16 : decode cX8_prides 16 = .ok (.iload_n 2, 1) ∧ 16 + 1 = 17 := ⟨by decide +kernel, rfl⟩
theorem dX8_prides_17 : decode cX8_prides 17 = .ok (.invokevirtual 182, 3) := by decide +kernel
theorem dX8_prides_20 : decode cX8_prides 20 = .ok (.ifCond .ne 6, 3) ∧ 20 + 3 = 23 ∧ ((20 : Nat) : Int) + (6) = ((26 : Nat) : Int) := ⟨by decide +kernel, rfl, by decide⟩
theorem dX8_prides_23 : decode cX8_prides 23 = .ok (.bipush (-5), 2) ∧ 23 + 2 = 25 := ⟨by decide +kernel, rfl⟩
theorem dX8_prides_25 : decode cX8_prides 25 = .ok (.ireturn, 1) := by decide +kernel
theorem dX8_prides_26 : decode cX8_prides 26 = .ok (.iload_n 3, 1) ∧ 26 + 1 = 27 := ⟨by decide +kernel, rfl⟩
theorem dX8_prides_27 : decode cX8_prides 27 = .ok (.iconst 0, 1) ∧ 27 + 1 = 28 := ⟨by decide +kernel, rfl⟩
theorem dX8_prides_28 : decode cX8_prides 28 = .ok (.iconst 1, 1) ∧ 28 + 1 = 29 := ⟨by decide +kernel, rfl⟩
theorem dX8_prides_29 : decode cX8_prides 29 = .ok (.invokestatic 87, 3) := by decide +kernel
theorem dX8_prides_32 : decode cX8_prides 32 = .ok (.ifCond .ne 6, 3) ∧ 32 + 3 = 35 ∧ ((32 : Nat) : Int) + (6) = ((38 : Nat) : Int) := ⟨by decide +kernel, rfl, by decide⟩
theorem dX8_prides_35 : decode cX8_prides 35 = .ok (.bipush (-7), 2) ∧ 35 + 2 = 37 := ⟨by decide +kernel, rfl⟩
theorem dX8_prides_37 : decode cX8_prides 37 = .ok (.ireturn, 1) := by decide +kernel
theorem dX8_prides_38 : decode cX8_prides 38 = .ok (.aload_n 0, 1) ∧ 38 + 1 = 39 := ⟨by decide +kernel, rfl⟩
theorem dX8_prides_39 : decode cX8_prides 39 = .ok (.getfield 16, 3) ∧ 39 + 3 = 42 := ⟨by decide +kernel, rfl⟩
theorem dX8_prides_42 : decode cX8_prides 42 = .ok (.iconst 2, 1) ∧ 42 + 1 = 43 := ⟨by decide +kernel, rfl⟩
theorem dX8_prides_43 : decode cX8_prides 43 = .ok (.iload_n 2, 1) ∧ 43 + 1 = 44 := ⟨by decide +kernel, rfl⟩
theorem dX8_prides_44 : decode cX8_prides 44 = .ok (.imul, 1) ∧ 44 + 1 = 45 := ⟨by decide +kernel, rfl⟩
theorem dX8_prides_45 : decode cX8_prides 45 = .ok (.iaload, 1) ∧ 45 + 1 = 46 := ⟨by decide +kernel, rfl⟩
theorem dX8_prides_46 : decode cX8_prides 46 = .ok (.istore 5, 2) ∧ 46 + 2 = 48 := ⟨by decide +kernel, rfl⟩
theorem dX8_prides_48 : decode cX8_prides 48 = .ok (.iconst 0, 1) ∧ 48 + 1 = 49 := ⟨by decide +kernel, rfl⟩
theorem dX8_prides_49 : decode cX8_prides 49 = .ok (.istore 6, 2) ∧ 49 + 2 = 51 := ⟨by decide +kernel, rfl⟩
theorem dX8_prides_51 : decode cX8_prides 51 = .ok (.iconst (-1), 1) ∧ 51 + 1 = 52 := ⟨by decide +kernel, rfl⟩
theorem dX8_prides_52 : decode cX8_prides 52 = .ok (.istore 7, 2) ∧ 52 + 2 = 54 := ⟨by decide +kernel, rfl⟩
theorem dX8_prides_54 : decode cX8_prides 54 = .ok (.iconst 0, 1) ∧ 54 + 1 = 55 := ⟨by decide +kernel, rfl⟩
theorem dX8_prides_55 : decode cX8_prides 55 = .ok (.istore 8, 2) ∧ 55 + 2 = 57 := ⟨by decide +kernel, rfl⟩
theorem dX8_prides_57 : decode cX8_prides 57 = .ok (.iload 8, 2) ∧ 57 + 2 = 59 := ⟨by decide +kernel, rfl⟩
theorem dX8_prides_59 : decode cX8_prides 59 = .ok (.bipush 99, 2) ∧ 59 + 2 = 61 := ⟨by decide +kernel, rfl⟩
theorem dX8_prides_61 : decode cX8_prides 61 = .ok (.if_icmp .gt 70, 3) ∧ 61 + 3 = 64 ∧ ((61 : Nat) : Int) + (70) = ((131 : Nat) : Int) := ⟨by decide +kernel, rfl, by decide⟩
theorem dX8_prides_64 : decode cX8_prides 64 = .ok (.aload_n 0, 1) ∧ 64 + 1 = 65 := ⟨by decide +kernel, rfl⟩
theorem dX8_prides_65 : decode cX8_prides 65 = .ok (.getfield 16, 3) ∧ 65 + 3 = 68 := ⟨by decide +kernel, rfl⟩
theorem dX8_prides_68 : decode cX8_prides 68 = .ok (.iconst 2, 1) ∧ 68 + 1 = 69 := ⟨by decide +kernel, rfl⟩
theorem dX8_prides_69 : decode cX8_prides 69 = .ok (.iload_n 2, 1) ∧ 69 + 1 = 70 := ⟨by decide +kernel, rfl⟩
theorem dX8_prides_70 : decode cX8_prides 70 = .ok (.imul, 1) ∧ 70 + 1 = 71 := ⟨by decide +kernel, rfl⟩
theorem dX8_prides_71 : decode cX8_prides 71 = .ok (.iload 8, 2) ∧ 71 + 2 = 73 := ⟨by decide +kernel, rfl⟩
theorem dX8_prides_73 : decode cX8_prides 73 = .ok (.iastore, 1) ∧ 73 + 1 = 74 := ⟨by decide +kernel, rfl⟩
theorem dX8_prides_74 : decode cX8_prides 74 = .ok (.aload_n 0, 1) ∧ 74 + 1 = 75 := ⟨by decide +kernel, rfl⟩
theorem dX8_prides_75 : decode cX8_prides 75 = .ok (.iload_n 1, 1) ∧ 75 + 1 = 76 := ⟨by decide +kernel, rfl⟩
theorem dX8_prides_76 : decode cX8_prides 76 = .ok (.invokevirtual 256, 3) := by decide +kernel
theorem dX8_prides_79 : decode cX8_prides 79 = .ok (.iconst (-1), 1) ∧ 79 + 1 = 80 := ⟨by decide +kernel, rfl⟩
theorem dX8_prides_80 : decode cX8_prides 80 = .ok (.if_icmp .ne 7, 3) ∧ 80 + 3 = 83 ∧ ((80 : Nat) : Int) + (7) = ((87 : Nat) : Int) := ⟨by decide +kernel, rfl, by decide⟩
theorem dX8_prides_83 : decode cX8_prides 83 = .ok (.iconst 1, 1) ∧ 83 + 1 = 84 := ⟨by decide +kernel, rfl⟩
theorem dX8_prides_84 : decode cX8_prides 84 = .ok (.goto 4, 3) ∧ ((84 : Nat) : Int) + (4) = ((88 : Nat) : Int) := ⟨by decide +kernel, by decide⟩
theorem dX8_prides_87 : decode cX8_prides 87 = .ok (.iconst 0, 1) ∧ 87 + 1 = 88 := ⟨by decide +kernel, rfl⟩
theorem dX8_prides_88 : decode cX8_prides 88 = .ok (.istore 9, 2) ∧ 88 + 2 = 90 := ⟨by decide +kernel, rfl⟩
theorem dX8_prides_90 : decode cX8_prides 90 = .ok (.iload 6, 2) ∧ 90 + 2 = 92 := ⟨by decide +kernel, rfl⟩
theorem dX8_prides_92 : decode cX8_prides 92 = .ok (.iload 9, 2) ∧ 92 + 2 = 94 := ⟨by decide +kernel, rfl⟩
theorem dX8_prides_94 : decode cX8_prides 94 = .ok (.ifCond .eq 7, 3) ∧ 94 + 3 = 97 ∧ ((94 : Nat) : Int) + (7) = ((101 : Nat) : Int) := ⟨by decide +kernel, rfl, by decide⟩
theorem dX8_prides_97 : decode cX8_prides 97 = .ok (.iconst 1, 1) ∧ 97 + 1 = 98 := ⟨by decide +kernel, rfl⟩
theorem dX8_prides_98 : decode cX8_prides 98 = .ok (.goto 4, 3) ∧ ((98 : Nat) : Int) + (4) = ((102 : Nat) : Int) := ⟨by decide +kernel, by decide⟩
theorem dX8_prides_101 : decode cX8_prides 101 = .ok (.iconst 0, 1) ∧ 101 + 1 = 102 := ⟨by decide +kernel, rfl⟩
theorem dX8_prides_102 : decode cX8_prides 102 = .ok (.iadd, 1) ∧ 102 + 1 = 103 := ⟨by decide +kernel, rfl⟩
theorem dX8_prides_103 : decode cX8_prides 103 = .ok (.istore 6, 2) ∧ 103 + 2 = 105 := ⟨by decide +kernel, rfl⟩
theorem dX8_prides_105 : decode cX8_prides 105 = .ok (.iload 9, 2) ∧ 105 + 2 = 107 := ⟨by decide +kernel, rfl⟩
theorem dX8_prides_107 : decode cX8_prides 107 = .ok (.ifCond .eq 14, 3) ∧ 107 + 3 = 110 ∧ ((107 : Nat) : Int) + (14) = ((121 : Nat) : Int) := ⟨by decide +kernel, rfl, by decide⟩
theorem dX8_prides_110 : decode cX8_prides 110 = .ok (.iload 7, 2) ∧ 110 + 2 = 112 := ⟨by decide +kernel, rfl⟩
theorem dX8_prides_112 : decode cX8_prides 112 = .ok (.iconst (-1), 1) ∧ 112 + 1 = 113 := ⟨by decide +kernel, rfl⟩
theorem dX8_prides_113 : decode cX8_prides 113 = .ok (.if_icmp .ne 8, 3) ∧ 113 + 3 = 116 ∧ ((113 : Nat) : Int) + (8) = ((121 : Nat) : Int) := ⟨by decide +kernel, rfl, by decide⟩
theorem dX8_prides_116 : decode cX8_prides 116 = .ok (.iload 8, 2) ∧ 116 + 2 = 118 := ⟨by decide +kernel, rfl⟩
theorem dX8_prides_118 : decode cX8_prides 118 = .ok (.goto 5, 3) ∧ ((118 : Nat) : Int) + (5) = ((123 : Nat) : Int) := ⟨by decide +kernel, by decide⟩
theorem dX8_prides_121 : decode cX8_prides 121 = .ok (.iload 7, 2) ∧ 121 + 2 = 123 := ⟨by decide +kernel, rfl⟩
theorem dX8_prides_123 : decode cX8_prides 123 = .ok (.istore 7, 2) ∧ 123 + 2 = 125 := ⟨by decide +kernel, rfl⟩
theorem dX8_prides_125 : decode cX8_prides 125 = .ok (.iinc 8 1, 3) ∧ 125 + 3 = 128 := ⟨by decide +kernel, rfl⟩
theorem dX8_prides_128 : decode cX8_prides 128 = .ok (.goto (-71), 3) ∧ ((128 : Nat) : Int) + (-71) = ((57 : Nat) : Int) := ⟨by decide +kernel, by decide⟩
theorem dX8_prides_131 : decode cX8_prides 131 = .ok (.aload_n 0, 1) ∧ 131 + 1 = 132 := ⟨by decide +kernel, rfl⟩
theorem dX8_prides_132 : decode cX8_prides 132 = .ok (.getfield 16, 3) ∧ 132 + 3 = 135 := ⟨by decide +kernel, rfl⟩
theorem dX8_prides_135 : decode cX8_prides 135 = .ok (.iconst 2, 1) ∧ 135 + 1 = 136 := ⟨by decide +kernel, rfl⟩
theorem dX8_prides_136 : decode cX8_prides 136 = .ok (.iload_n 2, 1) ∧ 136 + 1 = 137 := ⟨by decide +kernel, rfl⟩
theorem dX8_prides_137 : decode cX8_prides 137 = .ok (.imul, 1) ∧ 137 + 1 = 138 := ⟨by decide +kernel, rfl⟩
theorem dX8_prides_138 : decode cX8_prides 138 = .ok (.iload 5, 2) ∧ 138 + 2 = 140 := ⟨by decide +kernel, rfl⟩
theorem dX8_prides_140 : decode cX8_prides 140 = .ok (.iastore, 1) ∧ 140 + 1 = 141 := ⟨by decide +kernel, rfl⟩
theorem dX8_prides_141 : decode cX8_prides 141 = .ok (.iload_n 3, 1) ∧ 141 + 1 = 142 := ⟨by decide +kernel, rfl⟩
theorem dX8_prides_142 : decode cX8_prides 142 = .ok (.ifCond .ne 8, 3) ∧ 142 + 3 = 145 ∧ ((142 : Nat) : Int) + (8) = ((150 : Nat) : Int) := ⟨by decide +kernel, rfl, by decide⟩
theorem dX8_prides_145 : decode cX8_prides 145 = .ok (.iload 6, 2) ∧ 145 + 2 = 147 := ⟨by decide +kernel, rfl⟩
theorem dX8_prides_147 : decode cX8_prides 147 = .ok (.goto 5, 3) ∧ ((147 : Nat) : Int) + (5) = ((152 : Nat) : Int) := ⟨by decide +kernel, by decide⟩
theorem dX8_prides_150 : decode cX8_prides 150 = .ok (.iload 7, 2) ∧ 150 + 2 = 152 := ⟨by decide +kernel, rfl⟩
theorem dX8_prides_152 : decode cX8_prides 152 = .ok (.ireturn, 1) := by decide +kernel
def B_X8_prides_123 (k57 : Hp → Int32 → Int32 → Int32 → Option (Int32 × Hp)) (fu : Nat) (o : Nat) (S : Hp) (x1 : Int32) (x2 : Int32) (x3 : Int32) (x5 : Int32) (x6 : Int32) (x8 : Int32) (s0 : Int32) : Option (Int32 × Hp) :=
  k57 S x6 s0 (x8 + (1 : Int32))
set_option maxRecDepth 100000 in
set_option maxHeartbeats 4000000 in
theorem w_X8_prides_123 {E : Cx} {l : Launch} {res : Int32 × Hp} {ad : Nat → Nat} {k57 : Hp → Int32 → Int32 → Int32 → Option (Int32 × Hp)} {fu : Nat} {o : Nat} {S : Hp} {x1 : Int32} {x2 : Int32} {x3 : Int32} {x5 : Int32} {x6 : Int32} {x8 : Int32} {s0 : Int32} (K : Kx E cX8_prides RX8 (rmd 6 0 0)) (X : Bx E l yX8_prides 10 (some .int) 0 0 ad (QI res)) (hk57 : ∀ (S : Hp) (x6 : Int32) (x7 : Int32) (x8 : Int32), k57 S x6 x7 x8 = some res → J E 0 0 57 [(0, vR (some o)), (1, vI x1), (2, vI x2), (3, vI x3), (5, vI x5), (6, vI x6), (7, vI x7), (8, vI x8)] [] S ad) (h : B_X8_prides_123 k57 fu o S x1 x2 x3 x5 x6 x8 s0 = some res) : J E 0 0 123 [(0, vR (some o)), (1, vI x1), (2, vI x2), (3, vI x3), (5, vI x5), (6, vI x6), (8, vI x8)] [vI s0] S ad := by
  refine j_istore (lv' := [(7, vI s0), (0, vR (some o)), (1, vI x1), (2, vI x2), (3, vI x3), (5, vI x5), (6, vI x6), (8, vI x8)]) K dX8_prides_123 X.2.2.1 (by decide) rfl ?_
  refine j_iinc (q := 7) (v := (x8 + (1 : Int32))) (lv' := [(8, vI (x8 + (1 : Int32))), (7, vI s0), (0, vR (some o)), (1, vI x1), (2, vI x2), (3, vI x3), (5, vI x5), (6, vI x6)]) K dX8_prides_125 rfl rfl X.2.2.1 (by decide) rfl ?_
  refine j_goto K dX8_prides_128 ?_
  exact j_sub [2, 3, 4, 5, 6, 7, 1, 0] rfl (hk57 _ _ _ _ h)
def B_X8_prides_121 (k57 : Hp → Int32 → Int32 → Int32 → Option (Int32 × Hp)) (fu : Nat) (o : Nat) (S : Hp) (x1 : Int32) (x2 : Int32) (x3 : Int32) (x5 : Int32) (x6 : Int32) (x7 : Int32) (x8 : Int32) : Option (Int32 × Hp) :=
  B_X8_prides_123 k57 fu o S x1 x2 x3 x5 x6 x8 x7
set_option maxRecDepth 100000 in
set_option maxHeartbeats 4000000 in
theorem w_X8_prides_121 {E : Cx} {l : Launch} {res : Int32 × Hp} {ad : Nat → Nat} {k57 : Hp → Int32 → Int32 → Int32 → Option (Int32 × Hp)} {fu : Nat} {o : Nat} {S : Hp} {x1 : Int32} {x2 : Int32} {x3 : Int32} {x5 : Int32} {x6 : Int32} {x7 : Int32} {x8 : Int32} (K : Kx E cX8_prides RX8 (rmd 6 0 0)) (X : Bx E l yX8_prides 10 (some .int) 0 0 ad (QI res)) (hk57 : ∀ (S : Hp) (x6 : Int32) (x7 : Int32) (x8 : Int32), k57 S x6 x7 x8 = some res → J E 0 0 57 [(0, vR (some o)), (1, vI x1), (2, vI x2), (3, vI x3), (5, vI x5), (6, vI x6), (7, vI x7), (8, vI x8)] [] S ad) (h : B_X8_prides_121 k57 fu o S x1 x2 x3 x5 x6 x7 x8 = some res) : J E 0 0 121 [(0, vR (some o)), (1, vI x1), (2, vI x2), (3, vI x3), (5, vI x5), (6, vI x6), (7, vI x7), (8, vI x8)] [] S ad := by
  refine j_iload K dX8_prides_121 6 rfl ?_
  exact j_sub [0, 1, 2, 3, 4, 5, 7] rfl (w_X8_prides_123 K X hk57 h)
def B_X8_prides_102 (k57 : Hp → Int32 → Int32 → Int32 → Option (Int32 × Hp)) (fu : Nat) (o : Nat) (S : Hp) (x1 : Int32) (x2 : Int32) (x3 : Int32) (x5 : Int32) (x7 : Int32) (x8 : Int32) (x9 : Int32) (s0 : Int32) (s1 : Int32) : Option (Int32 × Hp) :=
  if x9 = 0 then
    B_X8_prides_121 k57 fu o S x1 x2 x3 x5 (s1 + s0) x7 x8
  else
    if x7 = (-1 : Int32) then
      B_X8_prides_123 k57 fu o S x1 x2 x3 x5 (s1 + s0) x8 x8
    else
      B_X8_prides_121 k57 fu o S x1 x2 x3 x5 (s1 + s0) x7 x8
set_option maxRecDepth 100000 in
set_option maxHeartbeats 4000000 in
theorem w_X8_prides_102 {E : Cx} {l : Launch} {res : Int32 × Hp} {ad : Nat → Nat} {k57 : Hp → Int32 → Int32 → Int32 → Option (Int32 × Hp)} {fu : Nat} {o : Nat} {S : Hp} {x1 : Int32} {x2 : Int32} {x3 : Int32} {x5 : Int32} {x7 : Int32} {x8 : Int32} {x9 : Int32} {s0 : Int32} {s1 : Int32} (K : Kx E cX8_prides RX8 (rmd 6 0 0)) (X : Bx E l yX8_prides 10 (some .int) 0 0 ad (QI res)) (hk57 : ∀ (S : Hp) (x6 : Int32) (x7 : Int32) (x8 : Int32), k57 S x6 x7 x8 = some res → J E 0 0 57 [(0, vR (some o)), (1, vI x1), (2, vI x2), (3, vI x3), (5, vI x5), (6, vI x6), (7, vI x7), (8, vI x8)] [] S ad) (h : B_X8_prides_102 k57 fu o S x1 x2 x3 x5 x7 x8 x9 s0 s1 = some res) : J E 0 0 102 [(0, vR (some o)), (1, vI x1), (2, vI x2), (3, vI x3), (5, vI x5), (7, vI x7), (8, vI x8), (9, vI x9)] [vI s0, vI s1] S ad := by
  refine j_iadd K dX8_prides_102 ?_
  refine j_istore (lv' := [(6, vI (s1 + s0)), (0, vR (some o)), (1, vI x1), (2, vI x2), (3, vI x3), (5, vI x5), (7, vI x7), (8, vI x8), (9, vI x9)]) K dX8_prides_103 X.2.2.1 (by decide) rfl ?_
  refine j_iload K dX8_prides_105 8 rfl ?_
  refine j_if_eq K dX8_prides_107 (fun c107 => ?_) (fun c107 => ?_)
  · replace h := it c107 h
    exact j_sub [1, 2, 3, 4, 5, 0, 6, 7] rfl (w_X8_prides_121 K X hk57 h)
  · replace h := ie c107 h
    refine j_iload K dX8_prides_110 6 rfl ?_
    refine j_iconst (v := (-1 : Int32)) K dX8_prides_112 (by decide) ?_
    refine j_icmp_ne K dX8_prides_113 (fun c113 => ?_) (fun c113 => ?_)
    · replace h := ie c113 h
      exact j_sub [1, 2, 3, 4, 5, 0, 6, 7] rfl (w_X8_prides_121 K X hk57 h)
    · replace h := it c113 h
      refine j_iload K dX8_prides_116 7 rfl ?_
      refine j_goto K dX8_prides_118 ?_
      exact j_sub [1, 2, 3, 4, 5, 0, 7] rfl (w_X8_prides_123 K X hk57 h)
def B_X8_prides_88 (k57 : Hp → Int32 → Int32 → Int32 → Option (Int32 × Hp)) (fu : Nat) (o : Nat) (S : Hp) (x1 : Int32) (x2 : Int32) (x3 : Int32) (x5 : Int32) (x6 : Int32) (x7 : Int32) (x8 : Int32) (s0 : Int32) : Option (Int32 × Hp) :=
  if s0 = 0 then
    B_X8_prides_102 k57 fu o S x1 x2 x3 x5 x7 x8 s0 (0 : Int32) x6
  else
    B_X8_prides_102 k57 fu o S x1 x2 x3 x5 x7 x8 s0 (1 : Int32) x6
set_option maxRecDepth 100000 in
set_option maxHeartbeats 4000000 in
theorem w_X8_prides_88 {E : Cx} {l : Launch} {res : Int32 × Hp} {ad : Nat → Nat} {k57 : Hp → Int32 → Int32 → Int32 → Option (Int32 × Hp)} {fu : Nat} {o : Nat} {S : Hp} {x1 : Int32} {x2 : Int32} {x3 : Int32} {x5 : Int32} {x6 : Int32} {x7 : Int32} {x8 : Int32} {s0 : Int32} (K : Kx E cX8_prides RX8 (rmd 6 0 0)) (X : Bx E l yX8_prides 10 (some .int) 0 0 ad (QI res)) (hk57 : ∀ (S : Hp) (x6 : Int32) (x7 : Int32) (x8 : Int32), k57 S x6 x7 x8 = some res → J E 0 0 57 [(0, vR (some o)), (1, vI x1), (2, vI x2), (3, vI x3), (5, vI x5), (6, vI x6), (7, vI x7), (8, vI x8)] [] S ad) (h : B_X8_prides_88 k57 fu o S x1 x2 x3 x5 x6 x7 x8 s0 = some res) : J E 0 0 88 [(0, vR (some o)), (1, vI x1), (2, vI x2), (3, vI x3), (5, vI x5), (6, vI x6), (7, vI x7), (8, vI x8)] [vI s0] S ad := by
  refine j_istore (lv' := [(9, vI s0), (0, vR (some o)), (1, vI x1), (2, vI x2), (3, vI x3), (5, vI x5), (6, vI x6), (7, vI x7), (8, vI x8)]) K dX8_prides_88 X.2.2.1 (by decide) rfl ?_
  refine j_iload K dX8_prides_90 6 rfl ?_
  refine j_iload K dX8_prides_92 0 rfl ?_
  refine j_if_eq K dX8_prides_94 (fun c94 => ?_) (fun c94 => ?_)
  · replace h := it c94 h
    refine j_iconst (v := (0 : Int32)) K dX8_prides_101 (by decide) ?_
    exact j_sub [1, 2, 3, 4, 5, 7, 8, 0] rfl (w_X8_prides_102 K X hk57 h)
  · replace h := ie c94 h
    refine j_iconst (v := (1 : Int32)) K dX8_prides_97 (by decide) ?_
    refine j_goto K dX8_prides_98 ?_
    exact j_sub [1, 2, 3, 4, 5, 7, 8, 0] rfl (w_X8_prides_102 K X hk57 h)
def B_X8_prides_152 (fu : Nat) (o : Nat) (S : Hp) (s0 : Int32) : Option (Int32 × Hp) :=
  some (s0, S)
set_option maxRecDepth 100000 in
set_option maxHeartbeats 4000000 in
theorem w_X8_prides_152 {E : Cx} {l : Launch} {res : Int32 × Hp} {ad : Nat → Nat} {fu : Nat} {o : Nat} {S : Hp} {s0 : Int32} (K : Kx E cX8_prides RX8 (rmd 6 0 0)) (X : Bx E l yX8_prides 10 (some .int) 0 0 ad (QI res)) (h : B_X8_prides_152 fu o S s0 = some res) : J E 0 0 152 [] [vI s0] S ad := by
  exact j_iret K X dX8_prides_152 h
def L_X8_prides_57 (k57 : Hp → Int32 → Int32 → Int32 → Option (Int32 × Hp)) (fu : Nat) (o : Nat) (x1 : Int32) (x2 : Int32) (x3 : Int32) (x5 : Int32) (S : Hp) (x6 : Int32) (x7 : Int32) (x8 : Int32) : Option (Int32 × Hp) :=
  if (99 : Int32) < x8 then
    (gR S (some o) 6 3).bind fun v132 =>
    (aP S v132 ((2 : Int32) * x2) x5).bind fun S140 =>
    if x3 = 0 then
      B_X8_prides_152 fu o S140 x6
    else
      B_X8_prides_152 fu o S140 x7
  else
    (gR S (some o) 6 3).bind fun v65 =>
    (aP S v65 ((2 : Int32) * x2) x8).bind fun S73 =>
    (ob S73 6 (some o)).bind fun _ =>
    b2 (F_X8_unlike fu S73 o x1) fun v76 S76 =>
    if v76 = (-1 : Int32) then
      B_X8_prides_88 k57 fu o S76 x1 x2 x3 x5 x6 x7 x8 (1 : Int32)
    else
      B_X8_prides_88 k57 fu o S76 x1 x2 x3 x5 x6 x7 x8 (0 : Int32)
set_option maxRecDepth 100000 in
set_option maxHeartbeats 4000000 in
theorem wl_X8_prides_57 {E : Cx} {l : Launch} {res : Int32 × Hp} {ad : Nat → Nat} {k57 : Hp → Int32 → Int32 → Int32 → Option (Int32 × Hp)} {fu : Nat} {o : Nat} {S : Hp} {x1 : Int32} {x2 : Int32} {x3 : Int32} {x5 : Int32} {x6 : Int32} {x7 : Int32} {x8 : Int32} (K : Kx E cX8_prides RX8 (rmd 6 0 0)) (X : Bx E l yX8_prides 10 (some .int) 0 0 ad (QI res)) (hk57 : ∀ (S : Hp) (x6 : Int32) (x7 : Int32) (x8 : Int32), k57 S x6 x7 x8 = some res → J E 0 0 57 [(0, vR (some o)), (1, vI x1), (2, vI x2), (3, vI x3), (5, vI x5), (6, vI x6), (7, vI x7), (8, vI x8)] [] S ad) (h : L_X8_prides_57 k57 fu o x1 x2 x3 x5 S x6 x7 x8 = some res) : J E 0 0 57 [(0, vR (some o)), (1, vI x1), (2, vI x2), (3, vI x3), (5, vI x5), (6, vI x6), (7, vI x7), (8, vI x8)] [] S ad := by
  refine j_iload K dX8_prides_57 7 rfl ?_
  refine j_bipush (v := (99 : Int32)) K dX8_prides_59 (by decide) ?_
  refine j_icmp_gt K dX8_prides_61 (fun c61 => ?_) (fun c61 => ?_)
  · replace h := it c61 h
    refine j_aload_n K dX8_prides_131 rfl 0 rfl ?_
    obtain ⟨v132, e132, h⟩ := bd h
    refine fgX8_16 K dX8_prides_132 e132 ?_
    refine j_iconst (v := (2 : Int32)) K dX8_prides_135 (by decide) ?_
    refine j_iload_n K dX8_prides_136 rfl 2 rfl ?_
    refine j_imul K dX8_prides_137 ?_
    refine j_iload K dX8_prides_138 4 rfl ?_
    obtain ⟨S140, e140, h⟩ := bd h
    refine j_aP K dX8_prides_140 e140 ?_
    refine j_iload_n K dX8_prides_141 rfl 3 rfl ?_
    refine j_if_ne K dX8_prides_142 (fun c142 => ?_) (fun c142 => ?_)
    · replace h := ie c142 h
      refine j_iload K dX8_prides_150 6 rfl ?_
      exact j_sub [] rfl (w_X8_prides_152 K X h)
    · replace h := it c142 h
      refine j_iload K dX8_prides_145 5 rfl ?_
      refine j_goto K dX8_prides_147 ?_
      exact j_sub [] rfl (w_X8_prides_152 K X h)
  · replace h := ie c61 h
    refine j_aload_n K dX8_prides_64 rfl 0 rfl ?_
    obtain ⟨v65, e65, h⟩ := bd h
    refine fgX8_16 K dX8_prides_65 e65 ?_
    refine j_iconst (v := (2 : Int32)) K dX8_prides_68 (by decide) ?_
    refine j_iload_n K dX8_prides_69 rfl 2 rfl ?_
    refine j_imul K dX8_prides_70 ?_
    refine j_iload K dX8_prides_71 7 rfl ?_
    obtain ⟨S73, e73, h⟩ := bd h
    refine j_aP K dX8_prides_73 e73 ?_
    refine j_aload_n K dX8_prides_74 rfl 0 rfl ?_
    refine j_iload_n K dX8_prides_75 rfl 1 rfl ?_
    obtain ⟨w76, ew76, h⟩ := bd h
    have ho76 := obS ew76
    obtain ⟨v76, S76, e76, h⟩ := bd2 h
    refine j_cI (st := []) K (r_V (vs := [vI x1]) (n := 1) (o := o) K (c_X8_unlike e76) ho76 (by decide) rfl dX8_prides_76 z1172 z1174 zs58 z13 z1175 ⟨zd_X8_unlike, rfl, rfl, rfl, ⟨Nat.le_of_ble_eq_true rfl, Nat.le_of_ble_eq_true rfl⟩, Nat.le_of_ble_eq_true rfl, Nat.le_of_ble_eq_true rfl, Nat.le_of_ble_eq_true rfl⟩) rfl ?_
    refine j_iconst (v := (-1 : Int32)) K dX8_prides_79 (by decide) ?_
    refine j_icmp_ne K dX8_prides_80 (fun c80 => ?_) (fun c80 => ?_)
    · replace h := ie c80 h
      refine j_iconst (v := (0 : Int32)) K dX8_prides_87 (by decide) ?_
      exact w_X8_prides_88 K X hk57 h
    · replace h := it c80 h
      refine j_iconst (v := (1 : Int32)) K dX8_prides_83 (by decide) ?_
      refine j_goto K dX8_prides_84 ?_
      exact w_X8_prides_88 K X hk57 h
def B_X8_prides_57 (fu : Nat) (o : Nat) (x1 : Int32) (x2 : Int32) (x3 : Int32) (x5 : Int32) : Nat → Hp → Int32 → Int32 → Int32 → Option (Int32 × Hp)
  | 0 => fun _ _ _ _ => none
  | n + 1 => L_X8_prides_57 (B_X8_prides_57 fu o x1 x2 x3 x5 n) fu o x1 x2 x3 x5
theorem w_X8_prides_57 {E : Cx} {l : Launch} {res : Int32 × Hp} {ad : Nat → Nat} {fu : Nat} {o : Nat} {x1 : Int32} {x2 : Int32} {x3 : Int32} {x5 : Int32} (K : Kx E cX8_prides RX8 (rmd 6 0 0)) (X : Bx E l yX8_prides 10 (some .int) 0 0 ad (QI res)) : ∀ (n : Nat) (S : Hp) (x6 : Int32) (x7 : Int32) (x8 : Int32), B_X8_prides_57 fu o x1 x2 x3 x5 n S x6 x7 x8 = some res → J E 0 0 57 [(0, vR (some o)), (1, vI x1), (2, vI x2), (3, vI x3), (5, vI x5), (6, vI x6), (7, vI x7), (8, vI x8)] [] S ad := by
  intro n
  induction n with
  | zero =>
    intro S x6 x7 x8 h
    cases h
  | succ n ih =>
    intro S x6 x7 x8 h
    exact wl_X8_prides_57 K X ih h
def F_X8_prides (fu : Nat) (S : Hp) (o : Nat) (x1 : Int32) (x2 : Int32) (x3 : Int32) : Option (Int32 × Hp) :=
  (ob S 6 (some o)).bind fun _ =>
  b2 (F_X8_sheetWrong S o x1) fun v2 S2 =>
  if v2 = 0 then
    (ob S2 6 (some o)).bind fun _ =>
    b2 (F_X8_isOne S2 o x2) fun v17 S17 =>
    if v17 = 0 then
      some ((-5 : Int32), S17)
    else
      b2 (F_X8_in S17 x3 (0 : Int32) (1 : Int32)) fun v29 S29 =>
      if v29 = 0 then
        some ((-7 : Int32), S29)
      else
        (gR S29 (some o) 6 3).bind fun v39 =>
        (aG S29 v39 ((2 : Int32) * x2)).bind fun v45 =>
        B_X8_prides_57 fu o x1 x2 x3 v45 fu S29 (0 : Int32) (-1 : Int32) (0 : Int32)
  else
    some (v2, S2)
set_option maxRecDepth 100000 in
set_option maxHeartbeats 4000000 in
theorem w_X8_prides {E : Cx} {l : Launch} {res : Int32 × Hp} {ad : Nat → Nat} {fu : Nat} {S : Hp} {o : Nat} {x1 : Int32} {x2 : Int32} {x3 : Int32} (K : Kx E cX8_prides RX8 (rmd 6 0 0)) (X : Bx E l yX8_prides 10 (some .int) 0 0 ad (QI res)) (h : F_X8_prides fu S o x1 x2 x3 = some res) : J E 0 0 0 [(0, vR (some o)), (1, vI x1), (2, vI x2), (3, vI x3)] [] S ad := by
  refine j_aload_n K dX8_prides_0 rfl 0 rfl ?_
  refine j_iload_n K dX8_prides_1 rfl 1 rfl ?_
  obtain ⟨w2, ew2, h⟩ := bd h
  have ho2 := obS ew2
  obtain ⟨v2, S2, e2, h⟩ := bd2 h
  refine j_cI (st := []) K (r_V (vs := [vI x1]) (n := 1) (o := o) K (c_X8_sheetWrong e2) ho2 (by decide) rfl dX8_prides_2 z1168 z1170 zs57 z13 z1171 ⟨zd_X8_sheetWrong, rfl, rfl, rfl, ⟨Nat.le_of_ble_eq_true rfl, Nat.le_of_ble_eq_true rfl⟩, Nat.le_of_ble_eq_true rfl, Nat.le_of_ble_eq_true rfl, Nat.le_of_ble_eq_true rfl⟩) rfl ?_
  refine j_istore (lv' := [(4, vI v2), (0, vR (some o)), (1, vI x1), (2, vI x2), (3, vI x3)]) K dX8_prides_5 X.2.2.1 (by decide) rfl ?_
  refine j_iload K dX8_prides_7 0 rfl ?_
  refine j_if_eq K dX8_prides_9 (fun c9 => ?_) (fun c9 => ?_)
  · replace h := it c9 h
    refine j_aload_n K dX8_prides_15 rfl 1 rfl ?_
    refine j_iload_n K dX8_prides_16 rfl 3 rfl ?_
    obtain ⟨w17, ew17, h⟩ := bd h
    have ho17 := obS ew17
    obtain ⟨v17, S17, e17, h⟩ := bd2 h
    refine j_cI (st := []) K (r_V (vs := [vI x2]) (n := 1) (o := o) K (c_X8_isOne e17) ho17 (by decide) rfl dX8_prides_17 z1003 z1005 zs35 z13 z1006 ⟨zd_X8_isOne, rfl, rfl, rfl, ⟨Nat.le_of_ble_eq_true rfl, Nat.le_of_ble_eq_true rfl⟩, Nat.le_of_ble_eq_true rfl, Nat.le_of_ble_eq_true rfl, Nat.le_of_ble_eq_true rfl⟩) rfl ?_
    refine j_if_ne K dX8_prides_20 (fun c20 => ?_) (fun c20 => ?_)
    · replace h := ie c20 h
      refine j_iload_n K dX8_prides_26 rfl 4 rfl ?_
      refine j_iconst (v := (0 : Int32)) K dX8_prides_27 (by decide) ?_
      refine j_iconst (v := (1 : Int32)) K dX8_prides_28 (by decide) ?_
      obtain ⟨v29, S29, e29, h⟩ := bd2 h
      refine j_cI (st := []) K (r_S (vs := [vI x3, vI (0 : Int32), vI (1 : Int32)]) (n := 3) K (c_X8_in e29) dX8_prides_29 z812 z813 z13 z814 ⟨zd_X8_in, rfl, rfl, rfl, ⟨Nat.le_of_ble_eq_true rfl, Nat.le_of_ble_eq_true rfl⟩, Nat.le_of_ble_eq_true rfl, Nat.le_of_ble_eq_true rfl, Nat.le_of_ble_eq_true rfl⟩) rfl ?_
      refine j_if_ne K dX8_prides_32 (fun c32 => ?_) (fun c32 => ?_)
      · replace h := ie c32 h
        refine j_aload_n K dX8_prides_38 rfl 1 rfl ?_
        obtain ⟨v39, e39, h⟩ := bd h
        refine fgX8_16 K dX8_prides_39 e39 ?_
        refine j_iconst (v := (2 : Int32)) K dX8_prides_42 (by decide) ?_
        refine j_iload_n K dX8_prides_43 rfl 3 rfl ?_
        refine j_imul K dX8_prides_44 ?_
        obtain ⟨v45, e45, h⟩ := bd h
        refine j_aG K dX8_prides_45 e45 ?_
        refine j_istore (lv' := [(5, vI v45), (4, vI v2), (0, vR (some o)), (1, vI x1), (2, vI x2), (3, vI x3)]) K dX8_prides_46 X.2.2.1 (by decide) rfl ?_
        refine j_iconst (v := (0 : Int32)) K dX8_prides_48 (by decide) ?_
        refine j_istore (lv' := [(6, vI (0 : Int32)), (5, vI v45), (4, vI v2), (0, vR (some o)), (1, vI x1), (2, vI x2), (3, vI x3)]) K dX8_prides_49 X.2.2.1 (by decide) rfl ?_
        refine j_iconst (v := (-1 : Int32)) K dX8_prides_51 (by decide) ?_
        refine j_istore (lv' := [(7, vI (-1 : Int32)), (6, vI (0 : Int32)), (5, vI v45), (4, vI v2), (0, vR (some o)), (1, vI x1), (2, vI x2), (3, vI x3)]) K dX8_prides_52 X.2.2.1 (by decide) rfl ?_
        refine j_iconst (v := (0 : Int32)) K dX8_prides_54 (by decide) ?_
        refine j_istore (lv' := [(8, vI (0 : Int32)), (7, vI (-1 : Int32)), (6, vI (0 : Int32)), (5, vI v45), (4, vI v2), (0, vR (some o)), (1, vI x1), (2, vI x2), (3, vI x3)]) K dX8_prides_55 X.2.2.1 (by decide) rfl ?_
        exact j_sub [5, 6, 7, 8, 3, 2, 1, 0] rfl (w_X8_prides_57 K X _ _ _ _ _ h)
      · replace h := it c32 h
        refine j_bipush (v := (-7 : Int32)) K dX8_prides_35 (by decide) ?_
        exact j_iret K X dX8_prides_37 h
    · replace h := it c20 h
      refine j_bipush (v := (-5 : Int32)) K dX8_prides_23 (by decide) ?_
      exact j_iret K X dX8_prides_25 h
  · replace h := ie c9 h
    refine j_iload K dX8_prides_12 0 rfl ?_
    exact j_iret K X dX8_prides_14 h
theorem c_X8_prides {l : Launch} {fu : Nat} {S : Hp} {o : Nat} {x1 : Int32} {x2 : Int32} {x3 : Int32} {res : Int32 × Hp} (h : F_X8_prides fu S o x1 x2 x3 = some res) : Ct l yX8_prides cX8_prides 10 (some .int) (rmd 6 0 0) 0 0 [vR (some o), vI x1, vI x2, vI x3] S (QI res) :=
  z_entry (by decide +kernel) (Nat.le_of_ble_eq_true rfl) (fun E ad K X => w_X8_prides K X h)

theorem dX8_whose_0 : decode cX8_whose 0 = .ok (.aload_n 0, 1) ∧ 0 + 1 = 1 := ⟨by decide +kernel, rfl⟩
theorem dX8_whose_1 : decode cX8_whose 1 = .ok (.iload_n 1, 1) ∧ 1 + 1 = 2 := ⟨by decide +kernel, rfl⟩
theorem dX8_whose_2 : decode cX8_whose 2 = .ok (.invokevirtual 253, 3) := by decide +kernel
theorem dX8_whose_5 : decode cX8_whose 5 = .ok (.istore 4, 2) ∧ 5 + 2 = 7 := ⟨by decide +kernel, rfl⟩
theorem dX8_whose_7 : decode cX8_whose 7 = .ok (.iload 4, 2) ∧ 7 + 2 = 9 := ⟨by decide +kernel, rfl⟩
theorem dX8_whose_9 : decode cX8_whose 9 = .ok (.ifCond .eq 6, 3) ∧ 9 + 3 = 12 ∧ ((9 : Nat) : Int) + (6) = ((15 : Nat) : Int) := ⟨by decide +kernel, rfl, by decide⟩
theorem dX8_whose_12 : decode cX8_whose 12 = .ok (.iload 4, 2) ∧ 12 + 2 = 14 := ⟨by decide +kernel, rfl⟩
theorem dX8_whose_14 : decode cX8_whose 14 = .ok (.ireturn, 1) := by decide +kernel
theorem dX8_whose_15 : decode cX8_whose 15 = .ok (.aload_n 0, 1) ∧ 15 + 1 = 16 := ⟨by decide +kernel, rfl⟩
theorem dX8_whose_16 : decode cX8_whose 16 = .ok (.iload_n 2, 1) ∧ 16 + 1 = 17 := ⟨by decide +kernel, rfl⟩
theorem dX8_whose_17 : decode cX8_whose 17 = .ok (.invokevirtual 103, 3) := by decide +kernel
theorem dX8_whose_20 : decode cX8_whose 20 = .ok (.ifCond .ne 6, 3) ∧ 20 + 3 = 23 ∧ ((20 : Nat) : Int) + (6) = ((26 : Nat) : Int) := ⟨by decide +kernel, rfl, by decide⟩
theorem dX8_whose_23 : decode cX8_whose 23 = .ok (.bipush (-6), 2) ∧ 23 + 2 = 25 := ⟨by decide +kernel, rfl⟩
theorem dX8_whose_25 : decode cX8_whose 25 = .ok (.ireturn, 1) := by decide +kernel
theorem dX8_whose_26 : decode cX8_whose 26 = .ok (.iload_n 3, 1) ∧ 26 + 1 = 27 := ⟨by decide +kernel, rfl⟩
theorem dX8_whose_27 : decode cX8_whose 27 = .ok (.iconst 0, 1) ∧ 27 + 1 = 28 := ⟨by decide +kernel, rfl⟩
theorem dX8_whose_28 : decode cX8_whose 28 = .ok (.iconst 1, 1) ∧ 28 + 1 = 29 := ⟨by decide +kernel, rfl⟩
theorem dX8_whose_29 : decode cX8_whose 29 = .ok (.invokestatic 87, 3) := by decide +kernel
theorem dX8_whose_32 : decode cX8_whose 32 = .ok (.ifCond .ne 6, 3) ∧ 32 + 3 = 35 ∧ ((32 : Nat) : Int) + (6) = ((38 : Nat) : Int) := ⟨by decide +kernel, rfl, by decide⟩
theorem dX8_whose_35 : decode cX8_whose 35 = .ok (.bipush (-7), 2) ∧ 35 + 2 = 37 := ⟨by decide +kernel, rfl⟩
theorem dX8_whose_37 : decode cX8_whose 37 = .ok (.ireturn, 1) := by decide +kernel
theorem dX8_whose_38 : decode cX8_whose 38 = .ok (.aload_n 0, 1) ∧ 38 + 1 = 39 := ⟨by decide +kernel, rfl⟩
theorem dX8_whose_39 : decode cX8_whose 39 = .ok (.getfield 19, 3) ∧ 39 + 3 = 42 := ⟨by decide +kernel, rfl⟩
theorem dX8_whose_42 : decode cX8_whose 42 = .ok (.iload_n 2, 1) ∧ 42 + 1 = 43 := ⟨by decide +kernel, rfl⟩
theorem dX8_whose_43 : decode cX8_whose 43 = .ok (.iaload, 1) ∧ 43 + 1 = 44 := ⟨by decide +kernel, rfl⟩
theorem dX8_whose_44 : decode cX8_whose 44 = .ok (.istore 5, 2) ∧ 44 + 2 = 46 := ⟨by decide +kernel, rfl⟩
theorem dX8_whose_46 : decode cX8_whose 46 = .ok (.iconst 0, 1) ∧ 46 + 1 = 47 := ⟨by decide +kernel, rfl⟩
theorem dX8_whose_47 : decode cX8_whose 47 = .ok (.istore 6, 2) ∧ 47 + 2 = 49 := ⟨by decide +kernel, rfl⟩
theorem dX8_whose_49 : decode cX8_whose 49 = .ok (.iconst (-1), 1) ∧ 49 + 1 = 50 := ⟨by decide +kernel, rfl⟩
theorem dX8_whose_50 : decode cX8_whose 50 = .ok (.istore 7, 2) ∧ 50 + 2 = 52 := ⟨by decide +kernel, rfl⟩
theorem dX8_whose_52 : decode cX8_whose 52 = .ok (.iconst 1, 1) ∧ 52 + 1 = 53 := ⟨by decide +kernel, rfl⟩
theorem dX8_whose_53 : decode cX8_whose 53 = .ok (.istore 8, 2) ∧ 53 + 2 = 55 := ⟨by decide +kernel, rfl⟩
theorem dX8_whose_55 : decode cX8_whose 55 = .ok (.iload 8, 2) ∧ 55 + 2 = 57 := ⟨by decide +kernel, rfl⟩
theorem dX8_whose_57 : decode cX8_whose 57 = .ok (.iconst 1, 1) ∧ 57 + 1 = 58 := ⟨by decide +kernel, rfl⟩
theorem dX8_whose_58 : decode cX8_whose 58 = .ok (.aload_n 0, 1) ∧ 58 + 1 = 59 := ⟨by decide +kernel, rfl⟩
theorem dX8_whose_59 : decode cX8_whose 59 = .ok (.getfield 84, 3) ∧ 59 + 3 = 62 := ⟨by decide +kernel, rfl⟩
theorem dX8_whose_62 : decode cX8_whose 62 = .ok (.ishl, 1) ∧ 62 + 1 = 63 := ⟨by decide +kernel, rfl⟩
theorem dX8_whose_63 : decode cX8_whose 63 = .ok (.if_icmp .ge 68, 3) ∧ 63 + 3 = 66 ∧ ((63 : Nat) : Int) + (68) = ((131 : Nat) : Int) := ⟨by decide +kernel, rfl, by decide⟩
theorem dX8_whose_66 : decode cX8_whose 66 = .ok (.aload_n 0, 1) ∧ 66 + 1 = 67 := ⟨by decide +kernel, rfl⟩
theorem dX8_whose_67 : decode cX8_whose 67 = .ok (.getfield 19, 3) ∧ 67 + 3 = 70 := ⟨by decide +kernel, rfl⟩
theorem dX8_whose_70 : decode cX8_whose 70 = .ok (.iload_n 2, 1) ∧ 70 + 1 = 71 := ⟨by decide +kernel, rfl⟩
theorem dX8_whose_71 : decode cX8_whose 71 = .ok (.iload 8, 2) ∧ 71 + 2 = 73 := ⟨by decide +kernel, rfl⟩
theorem dX8_whose_73 : decode cX8_whose 73 = .ok (.iastore, 1) ∧ 73 + 1 = 74 := ⟨by decide +kernel, rfl⟩
theorem dX8_whose_74 : decode cX8_whose 74 = .ok (.aload_n 0, 1) ∧ 74 + 1 = 75 := ⟨by decide +kernel, rfl⟩
theorem dX8_whose_75 : decode cX8_whose 75 = .ok (.iload_n 1, 1) ∧ 75 + 1 = 76 := ⟨by decide +kernel, rfl⟩
theorem dX8_whose_76 : decode cX8_whose 76 = .ok (.invokevirtual 256, 3) := by decide +kernel
theorem dX8_whose_79 : decode cX8_whose 79 = .ok (.iconst (-1), 1) ∧ 79 + 1 = 80 := ⟨by decide +kernel, rfl⟩
theorem dX8_whose_80 : decode cX8_whose 80 = .ok (.if_icmp .ne 7, 3) ∧ 80 + 3 = 83 ∧ ((80 : Nat) : Int) + (7) = ((87 : Nat) : Int) := ⟨by decide +kernel, rfl, by decide⟩
theorem dX8_whose_83 : decode cX8_whose 83 = .ok (.iconst 1, 1) ∧ 83 + 1 = 84 := ⟨by decide +kernel, rfl⟩
theorem dX8_whose_84 : decode cX8_whose 84 = .ok (.goto 4, 3) ∧ ((84 : Nat) : Int) + (4) = ((88 : Nat) : Int) := ⟨by decide +kernel, by decide⟩
theorem dX8_whose_87 : decode cX8_whose 87 = .ok (.iconst 0, 1) ∧ 87 + 1 = 88 := ⟨by decide +kernel, rfl⟩
theorem dX8_whose_88 : decode cX8_whose 88 = .ok (.istore 9, 2) ∧ 88 + 2 = 90 := ⟨by decide +kernel, rfl⟩
theorem dX8_whose_90 : decode cX8_whose 90 = .ok (.iload 6, 2) ∧ 90 + 2 = 92 := ⟨by decide +kernel, rfl⟩
theorem dX8_whose_92 : decode cX8_whose 92 = .ok (.iload 9, 2) ∧ 92 + 2 = 94 := ⟨by decide +kernel, rfl⟩
theorem dX8_whose_94 : decode cX8_whose 94 = .ok (.ifCond .eq 7, 3) ∧ 94 + 3 = 97 ∧ ((94 : Nat) : Int) + (7) = ((101 : Nat) : Int) := ⟨by decide +kernel, rfl, by decide⟩
theorem dX8_whose_97 : decode cX8_whose 97 = .ok (.iconst 1, 1) ∧ 97 + 1 = 98 := ⟨by decide +kernel, rfl⟩
theorem dX8_whose_98 : decode cX8_whose 98 = .ok (.goto 4, 3) ∧ ((98 : Nat) : Int) + (4) = ((102 : Nat) : Int) := ⟨by decide +kernel, by decide⟩
theorem dX8_whose_101 : decode cX8_whose 101 = .ok (.iconst 0, 1) ∧ 101 + 1 = 102 := ⟨by decide +kernel, rfl⟩
theorem dX8_whose_102 : decode cX8_whose 102 = .ok (.iadd, 1) ∧ 102 + 1 = 103 := ⟨by decide +kernel, rfl⟩
theorem dX8_whose_103 : decode cX8_whose 103 = .ok (.istore 6, 2) ∧ 103 + 2 = 105 := ⟨by decide +kernel, rfl⟩
theorem dX8_whose_105 : decode cX8_whose 105 = .ok (.iload 9, 2) ∧ 105 + 2 = 107 := ⟨by decide +kernel, rfl⟩
theorem dX8_whose_107 : decode cX8_whose 107 = .ok (.ifCond .eq 14, 3) ∧ 107 + 3 = 110 ∧ ((107 : Nat) : Int) + (14) = ((121 : Nat) : Int) := ⟨by decide +kernel, rfl, by decide⟩
theorem dX8_whose_110 : decode cX8_whose 110 = .ok (.iload 7, 2) ∧ 110 + 2 = 112 := ⟨by decide +kernel, rfl⟩
theorem dX8_whose_112 : decode cX8_whose 112 = .ok (.iconst (-1), 1) ∧ 112 + 1 = 113 := ⟨by decide +kernel, rfl⟩
theorem dX8_whose_113 : decode cX8_whose 113 = .ok (.if_icmp .ne 8, 3) ∧ 113 + 3 = 116 ∧ ((113 : Nat) : Int) + (8) = ((121 : Nat) : Int) := ⟨by decide +kernel, rfl, by decide⟩
theorem dX8_whose_116 : decode cX8_whose 116 = .ok (.iload 8, 2) ∧ 116 + 2 = 118 := ⟨by decide +kernel, rfl⟩
theorem dX8_whose_118 : decode cX8_whose 118 = .ok (.goto 5, 3) ∧ ((118 : Nat) : Int) + (5) = ((123 : Nat) : Int) := ⟨by decide +kernel, by decide⟩
theorem dX8_whose_121 : decode cX8_whose 121 = .ok (.iload 7, 2) ∧ 121 + 2 = 123 := ⟨by decide +kernel, rfl⟩
theorem dX8_whose_123 : decode cX8_whose 123 = .ok (.istore 7, 2) ∧ 123 + 2 = 125 := ⟨by decide +kernel, rfl⟩
theorem dX8_whose_125 : decode cX8_whose 125 = .ok (.iinc 8 1, 3) ∧ 125 + 3 = 128 := ⟨by decide +kernel, rfl⟩
theorem dX8_whose_128 : decode cX8_whose 128 = .ok (.goto (-73), 3) ∧ ((128 : Nat) : Int) + (-73) = ((55 : Nat) : Int) := ⟨by decide +kernel, by decide⟩
theorem dX8_whose_131 : decode cX8_whose 131 = .ok (.aload_n 0, 1) ∧ 131 + 1 = 132 := ⟨by decide +kernel, rfl⟩
theorem dX8_whose_132 : decode cX8_whose 132 = .ok (.getfield 19, 3) ∧ 132 + 3 = 135 := ⟨by decide +kernel, rfl⟩
theorem dX8_whose_135 : decode cX8_whose 135 = .ok (.iload_n 2, 1) ∧ 135 + 1 = 136 := ⟨by decide +kernel, rfl⟩
theorem dX8_whose_136 : decode cX8_whose 136 = .ok (.iload 5, 2) ∧ 136 + 2 = 138 := ⟨by decide +kernel, rfl⟩
theorem dX8_whose_138 : decode cX8_whose 138 = .ok (.iastore, 1) ∧ 138 + 1 = 139 := ⟨by decide +kernel, rfl⟩
theorem dX8_whose_139 : decode cX8_whose 139 = .ok (.iload_n 3, 1) ∧ 139 + 1 = 140 := ⟨by decide +kernel, rfl⟩
theorem dX8_whose_140 : decode cX8_whose 140 = .ok (.ifCond .ne 8, 3) ∧ 140 + 3 = 143 ∧ ((140 : Nat) : Int) + (8) = ((148 : Nat) : Int) := ⟨by decide +kernel, rfl, by decide⟩
theorem dX8_whose_143 : decode cX8_whose 143 = .ok (.iload 6, 2) ∧ 143 + 2 = 145 := ⟨by decide +kernel, rfl⟩
theorem dX8_whose_145 : decode cX8_whose 145 = .ok (.goto 5, 3) ∧ ((145 : Nat) : Int) + (5) = ((150 : Nat) : Int) := ⟨by decide +kernel, by decide⟩
theorem dX8_whose_148 : decode cX8_whose 148 = .ok (.iload 7, 2) ∧ 148 + 2 = 150 := ⟨by decide +kernel, rfl⟩
theorem dX8_whose_150 : decode cX8_whose 150 = .ok (.ireturn, 1) := by decide +kernel
def B_X8_whose_123 (k55 : Hp → Int32 → Int32 → Int32 → Option (Int32 × Hp)) (fu : Nat) (o : Nat) (S : Hp) (x1 : Int32) (x2 : Int32) (x3 : Int32) (x5 : Int32) (x6 : Int32) (x8 : Int32) (s0 : Int32) : Option (Int32 × Hp) :=
  k55 S x6 s0 (x8 + (1 : Int32))
set_option maxRecDepth 100000 in
set_option maxHeartbeats 4000000 in
theorem w_X8_whose_123 {E : Cx} {l : Launch} {res : Int32 × Hp} {ad : Nat → Nat} {k55 : Hp → Int32 → Int32 → Int32 → Option (Int32 × Hp)} {fu : Nat} {o : Nat} {S : Hp} {x1 : Int32} {x2 : Int32} {x3 : Int32} {x5 : Int32} {x6 : Int32} {x8 : Int32} {s0 : Int32} (K : Kx E cX8_whose RX8 (rmd 6 0 0)) (X : Bx E l yX8_whose 10 (some .int) 0 0 ad (QI res)) (hk55 : ∀ (S : Hp) (x6 : Int32) (x7 : Int32) (x8 : Int32), k55 S x6 x7 x8 = some res → J E 0 0 55 [(0, vR (some o)), (1, vI x1), (2, vI x2), (3, vI x3), (5, vI x5), (6, vI x6), (7, vI x7), (8, vI x8)] [] S ad) (h : B_X8_whose_123 k55 fu o S x1 x2 x3 x5 x6 x8 s0 = some res) : J E 0 0 123 [(0, vR (some o)), (1, vI x1), (2, vI x2), (3, vI x3), (5, vI x5), (6, vI x6), (8, vI x8)] [vI s0] S ad := by
  refine j_istore (lv' := [(7, vI s0), (0, vR (some o)), (1, vI x1), (2, vI x2), (3, vI x3), (5, vI x5), (6, vI x6), (8, vI x8)]) K dX8_whose_123 X.2.2.1 (by decide) rfl ?_
  refine j_iinc (q := 7) (v := (x8 + (1 : Int32))) (lv' := [(8, vI (x8 + (1 : Int32))), (7, vI s0), (0, vR (some o)), (1, vI x1), (2, vI x2), (3, vI x3), (5, vI x5), (6, vI x6)]) K dX8_whose_125 rfl rfl X.2.2.1 (by decide) rfl ?_
  refine j_goto K dX8_whose_128 ?_
  exact j_sub [2, 3, 4, 5, 6, 7, 1, 0] rfl (hk55 _ _ _ _ h)
def B_X8_whose_121 (k55 : Hp → Int32 → Int32 → Int32 → Option (Int32 × Hp)) (fu : Nat) (o : Nat) (S : Hp) (x1 : Int32) (x2 : Int32) (x3 : Int32) (x5 : Int32) (x6 : Int32) (x7 : Int32) (x8 : Int32) : Option (Int32 × Hp) :=
  B_X8_whose_123 k55 fu o S x1 x2 x3 x5 x6 x8 x7
set_option maxRecDepth 100000 in
set_option maxHeartbeats 4000000 in
theorem w_X8_whose_121 {E : Cx} {l : Launch} {res : Int32 × Hp} {ad : Nat → Nat} {k55 : Hp → Int32 → Int32 → Int32 → Option (Int32 × Hp)} {fu : Nat} {o : Nat} {S : Hp} {x1 : Int32} {x2 : Int32} {x3 : Int32} {x5 : Int32} {x6 : Int32} {x7 : Int32} {x8 : Int32} (K : Kx E cX8_whose RX8 (rmd 6 0 0)) (X : Bx E l yX8_whose 10 (some .int) 0 0 ad (QI res)) (hk55 : ∀ (S : Hp) (x6 : Int32) (x7 : Int32) (x8 : Int32), k55 S x6 x7 x8 = some res → J E 0 0 55 [(0, vR (some o)), (1, vI x1), (2, vI x2), (3, vI x3), (5, vI x5), (6, vI x6), (7, vI x7), (8, vI x8)] [] S ad) (h : B_X8_whose_121 k55 fu o S x1 x2 x3 x5 x6 x7 x8 = some res) : J E 0 0 121 [(0, vR (some o)), (1, vI x1), (2, vI x2), (3, vI x3), (5, vI x5), (6, vI x6), (7, vI x7), (8, vI x8)] [] S ad := by
  refine j_iload K dX8_whose_121 6 rfl ?_
  exact j_sub [0, 1, 2, 3, 4, 5, 7] rfl (w_X8_whose_123 K X hk55 h)
def B_X8_whose_102 (k55 : Hp → Int32 → Int32 → Int32 → Option (Int32 × Hp)) (fu : Nat) (o : Nat) (S : Hp) (x1 : Int32) (x2 : Int32) (x3 : Int32) (x5 : Int32) (x7 : Int32) (x8 : Int32) (x9 : Int32) (s0 : Int32) (s1 : Int32) : Option (Int32 × Hp) :=
  if x9 = 0 then
    B_X8_whose_121 k55 fu o S x1 x2 x3 x5 (s1 + s0) x7 x8
  else
    if x7 = (-1 : Int32) then
      B_X8_whose_123 k55 fu o S x1 x2 x3 x5 (s1 + s0) x8 x8
    else
      B_X8_whose_121 k55 fu o S x1 x2 x3 x5 (s1 + s0) x7 x8
set_option maxRecDepth 100000 in
set_option maxHeartbeats 4000000 in
theorem w_X8_whose_102 {E : Cx} {l : Launch} {res : Int32 × Hp} {ad : Nat → Nat} {k55 : Hp → Int32 → Int32 → Int32 → Option (Int32 × Hp)} {fu : Nat} {o : Nat} {S : Hp} {x1 : Int32} {x2 : Int32} {x3 : Int32} {x5 : Int32} {x7 : Int32} {x8 : Int32} {x9 : Int32} {s0 : Int32} {s1 : Int32} (K : Kx E cX8_whose RX8 (rmd 6 0 0)) (X : Bx E l yX8_whose 10 (some .int) 0 0 ad (QI res)) (hk55 : ∀ (S : Hp) (x6 : Int32) (x7 : Int32) (x8 : Int32), k55 S x6 x7 x8 = some res → J E 0 0 55 [(0, vR (some o)), (1, vI x1), (2, vI x2), (3, vI x3), (5, vI x5), (6, vI x6), (7, vI x7), (8, vI x8)] [] S ad) (h : B_X8_whose_102 k55 fu o S x1 x2 x3 x5 x7 x8 x9 s0 s1 = some res) : J E 0 0 102 [(0, vR (some o)), (1, vI x1), (2, vI x2), (3, vI x3), (5, vI x5), (7, vI x7), (8, vI x8), (9, vI x9)] [vI s0, vI s1] S ad := by
  refine j_iadd K dX8_whose_102 ?_
  refine j_istore (lv' := [(6, vI (s1 + s0)), (0, vR (some o)), (1, vI x1), (2, vI x2), (3, vI x3), (5, vI x5), (7, vI x7), (8, vI x8), (9, vI x9)]) K dX8_whose_103 X.2.2.1 (by decide) rfl ?_
  refine j_iload K dX8_whose_105 8 rfl ?_
  refine j_if_eq K dX8_whose_107 (fun c107 => ?_) (fun c107 => ?_)
  · replace h := it c107 h
    exact j_sub [1, 2, 3, 4, 5, 0, 6, 7] rfl (w_X8_whose_121 K X hk55 h)
  · replace h := ie c107 h
    refine j_iload K dX8_whose_110 6 rfl ?_
    refine j_iconst (v := (-1 : Int32)) K dX8_whose_112 (by decide) ?_
    refine j_icmp_ne K dX8_whose_113 (fun c113 => ?_) (fun c113 => ?_)
    · replace h := ie c113 h
      exact j_sub [1, 2, 3, 4, 5, 0, 6, 7] rfl (w_X8_whose_121 K X hk55 h)
    · replace h := it c113 h
      refine j_iload K dX8_whose_116 7 rfl ?_
      refine j_goto K dX8_whose_118 ?_
      exact j_sub [1, 2, 3, 4, 5, 0, 7] rfl (w_X8_whose_123 K X hk55 h)
def B_X8_whose_88 (k55 : Hp → Int32 → Int32 → Int32 → Option (Int32 × Hp)) (fu : Nat) (o : Nat) (S : Hp) (x1 : Int32) (x2 : Int32) (x3 : Int32) (x5 : Int32) (x6 : Int32) (x7 : Int32) (x8 : Int32) (s0 : Int32) : Option (Int32 × Hp) :=
  if s0 = 0 then
    B_X8_whose_102 k55 fu o S x1 x2 x3 x5 x7 x8 s0 (0 : Int32) x6
  else
    B_X8_whose_102 k55 fu o S x1 x2 x3 x5 x7 x8 s0 (1 : Int32) x6
set_option maxRecDepth 100000 in
set_option maxHeartbeats 4000000 in
theorem w_X8_whose_88 {E : Cx} {l : Launch} {res : Int32 × Hp} {ad : Nat → Nat} {k55 : Hp → Int32 → Int32 → Int32 → Option (Int32 × Hp)} {fu : Nat} {o : Nat} {S : Hp} {x1 : Int32} {x2 : Int32} {x3 : Int32} {x5 : Int32} {x6 : Int32} {x7 : Int32} {x8 : Int32} {s0 : Int32} (K : Kx E cX8_whose RX8 (rmd 6 0 0)) (X : Bx E l yX8_whose 10 (some .int) 0 0 ad (QI res)) (hk55 : ∀ (S : Hp) (x6 : Int32) (x7 : Int32) (x8 : Int32), k55 S x6 x7 x8 = some res → J E 0 0 55 [(0, vR (some o)), (1, vI x1), (2, vI x2), (3, vI x3), (5, vI x5), (6, vI x6), (7, vI x7), (8, vI x8)] [] S ad) (h : B_X8_whose_88 k55 fu o S x1 x2 x3 x5 x6 x7 x8 s0 = some res) : J E 0 0 88 [(0, vR (some o)), (1, vI x1), (2, vI x2), (3, vI x3), (5, vI x5), (6, vI x6), (7, vI x7), (8, vI x8)] [vI s0] S ad := by
  refine j_istore (lv' := [(9, vI s0), (0, vR (some o)), (1, vI x1), (2, vI x2), (3, vI x3), (5, vI x5), (6, vI x6), (7, vI x7), (8, vI x8)]) K dX8_whose_88 X.2.2.1 (by decide) rfl ?_
  refine j_iload K dX8_whose_90 6 rfl ?_
  refine j_iload K dX8_whose_92 0 rfl ?_
  refine j_if_eq K dX8_whose_94 (fun c94 => ?_) (fun c94 => ?_)
  · replace h := it c94 h
    refine j_iconst (v := (0 : Int32)) K dX8_whose_101 (by decide) ?_
    exact j_sub [1, 2, 3, 4, 5, 7, 8, 0] rfl (w_X8_whose_102 K X hk55 h)
  · replace h := ie c94 h
    refine j_iconst (v := (1 : Int32)) K dX8_whose_97 (by decide) ?_
    refine j_goto K dX8_whose_98 ?_
    exact j_sub [1, 2, 3, 4, 5, 7, 8, 0] rfl (w_X8_whose_102 K X hk55 h)
def B_X8_whose_150 (fu : Nat) (o : Nat) (S : Hp) (s0 : Int32) : Option (Int32 × Hp) :=
  some (s0, S)
set_option maxRecDepth 100000 in
set_option maxHeartbeats 4000000 in
theorem w_X8_whose_150 {E : Cx} {l : Launch} {res : Int32 × Hp} {ad : Nat → Nat} {fu : Nat} {o : Nat} {S : Hp} {s0 : Int32} (K : Kx E cX8_whose RX8 (rmd 6 0 0)) (X : Bx E l yX8_whose 10 (some .int) 0 0 ad (QI res)) (h : B_X8_whose_150 fu o S s0 = some res) : J E 0 0 150 [] [vI s0] S ad := by
  exact j_iret K X dX8_whose_150 h
def L_X8_whose_55 (k55 : Hp → Int32 → Int32 → Int32 → Option (Int32 × Hp)) (fu : Nat) (o : Nat) (x1 : Int32) (x2 : Int32) (x3 : Int32) (x5 : Int32) (S : Hp) (x6 : Int32) (x7 : Int32) (x8 : Int32) : Option (Int32 × Hp) :=
  (gI S (some o) 6 0).bind fun v59 =>
  if ((1 : Int32) <<< (v59 &&& 31)) ≤ x8 then
    (gR S (some o) 6 4).bind fun v132 =>
    (aP S v132 x2 x5).bind fun S138 =>
    if x3 = 0 then
      B_X8_whose_150 fu o S138 x6
    else
      B_X8_whose_150 fu o S138 x7
  else
    (gR S (some o) 6 4).bind fun v67 =>
    (aP S v67 x2 x8).bind fun S73 =>
    (ob S73 6 (some o)).bind fun _ =>
    b2 (F_X8_unlike fu S73 o x1) fun v76 S76 =>
    if v76 = (-1 : Int32) then
      B_X8_whose_88 k55 fu o S76 x1 x2 x3 x5 x6 x7 x8 (1 : Int32)
    else
      B_X8_whose_88 k55 fu o S76 x1 x2 x3 x5 x6 x7 x8 (0 : Int32)
set_option maxRecDepth 100000 in
set_option maxHeartbeats 4000000 in
theorem wl_X8_whose_55 {E : Cx} {l : Launch} {res : Int32 × Hp} {ad : Nat → Nat} {k55 : Hp → Int32 → Int32 → Int32 → Option (Int32 × Hp)} {fu : Nat} {o : Nat} {S : Hp} {x1 : Int32} {x2 : Int32} {x3 : Int32} {x5 : Int32} {x6 : Int32} {x7 : Int32} {x8 : Int32} (K : Kx E cX8_whose RX8 (rmd 6 0 0)) (X : Bx E l yX8_whose 10 (some .int) 0 0 ad (QI res)) (hk55 : ∀ (S : Hp) (x6 : Int32) (x7 : Int32) (x8 : Int32), k55 S x6 x7 x8 = some res → J E 0 0 55 [(0, vR (some o)), (1, vI x1), (2, vI x2), (3, vI x3), (5, vI x5), (6, vI x6), (7, vI x7), (8, vI x8)] [] S ad) (h : L_X8_whose_55 k55 fu o x1 x2 x3 x5 S x6 x7 x8 = some res) : J E 0 0 55 [(0, vR (some o)), (1, vI x1), (2, vI x2), (3, vI x3), (5, vI x5), (6, vI x6), (7, vI x7), (8, vI x8)] [] S ad := by
  refine j_iload K dX8_whose_55 7 rfl ?_
  refine j_iconst (v := (1 : Int32)) K dX8_whose_57 (by decide) ?_
  refine j_aload_n K dX8_whose_58 rfl 0 rfl ?_
  obtain ⟨v59, e59, h⟩ := bd h
  refine fgX8_84 K dX8_whose_59 e59 ?_
  refine j_ishl K dX8_whose_62 ?_
  refine j_icmp_ge K dX8_whose_63 (fun c63 => ?_) (fun c63 => ?_)
  · replace h := it c63 h
    refine j_aload_n K dX8_whose_131 rfl 0 rfl ?_
    obtain ⟨v132, e132, h⟩ := bd h
    refine fgX8_19 K dX8_whose_132 e132 ?_
    refine j_iload_n K dX8_whose_135 rfl 2 rfl ?_
    refine j_iload K dX8_whose_136 4 rfl ?_
    obtain ⟨S138, e138, h⟩ := bd h
    refine j_aP K dX8_whose_138 e138 ?_
    refine j_iload_n K dX8_whose_139 rfl 3 rfl ?_
    refine j_if_ne K dX8_whose_140 (fun c140 => ?_) (fun c140 => ?_)
    · replace h := ie c140 h
      refine j_iload K dX8_whose_148 6 rfl ?_
      exact j_sub [] rfl (w_X8_whose_150 K X h)
    · replace h := it c140 h
      refine j_iload K dX8_whose_143 5 rfl ?_
      refine j_goto K dX8_whose_145 ?_
      exact j_sub [] rfl (w_X8_whose_150 K X h)
  · replace h := ie c63 h
    refine j_aload_n K dX8_whose_66 rfl 0 rfl ?_
    obtain ⟨v67, e67, h⟩ := bd h
    refine fgX8_19 K dX8_whose_67 e67 ?_
    refine j_iload_n K dX8_whose_70 rfl 2 rfl ?_
    refine j_iload K dX8_whose_71 7 rfl ?_
    obtain ⟨S73, e73, h⟩ := bd h
    refine j_aP K dX8_whose_73 e73 ?_
    refine j_aload_n K dX8_whose_74 rfl 0 rfl ?_
    refine j_iload_n K dX8_whose_75 rfl 1 rfl ?_
    obtain ⟨w76, ew76, h⟩ := bd h
    have ho76 := obS ew76
    obtain ⟨v76, S76, e76, h⟩ := bd2 h
    refine j_cI (st := []) K (r_V (vs := [vI x1]) (n := 1) (o := o) K (c_X8_unlike e76) ho76 (by decide) rfl dX8_whose_76 z1172 z1174 zs58 z13 z1175 ⟨zd_X8_unlike, rfl, rfl, rfl, ⟨Nat.le_of_ble_eq_true rfl, Nat.le_of_ble_eq_true rfl⟩, Nat.le_of_ble_eq_true rfl, Nat.le_of_ble_eq_true rfl, Nat.le_of_ble_eq_true rfl⟩) rfl ?_
    refine j_iconst (v := (-1 : Int32)) K dX8_whose_79 (by decide) ?_
    refine j_icmp_ne K dX8_whose_80 (fun c80 => ?_) (fun c80 => ?_)
    · replace h := ie c80 h
      refine j_iconst (v := (0 : Int32)) K dX8_whose_87 (by decide) ?_
      exact w_X8_whose_88 K X hk55 h
    · replace h := it c80 h
      refine j_iconst (v := (1 : Int32)) K dX8_whose_83 (by decide) ?_
      refine j_goto K dX8_whose_84 ?_
      exact w_X8_whose_88 K X hk55 h
def B_X8_whose_55 (fu : Nat) (o : Nat) (x1 : Int32) (x2 : Int32) (x3 : Int32) (x5 : Int32) : Nat → Hp → Int32 → Int32 → Int32 → Option (Int32 × Hp)
  | 0 => fun _ _ _ _ => none
  | n + 1 => L_X8_whose_55 (B_X8_whose_55 fu o x1 x2 x3 x5 n) fu o x1 x2 x3 x5
theorem w_X8_whose_55 {E : Cx} {l : Launch} {res : Int32 × Hp} {ad : Nat → Nat} {fu : Nat} {o : Nat} {x1 : Int32} {x2 : Int32} {x3 : Int32} {x5 : Int32} (K : Kx E cX8_whose RX8 (rmd 6 0 0)) (X : Bx E l yX8_whose 10 (some .int) 0 0 ad (QI res)) : ∀ (n : Nat) (S : Hp) (x6 : Int32) (x7 : Int32) (x8 : Int32), B_X8_whose_55 fu o x1 x2 x3 x5 n S x6 x7 x8 = some res → J E 0 0 55 [(0, vR (some o)), (1, vI x1), (2, vI x2), (3, vI x3), (5, vI x5), (6, vI x6), (7, vI x7), (8, vI x8)] [] S ad := by
  intro n
  induction n with
  | zero =>
    intro S x6 x7 x8 h
    cases h
  | succ n ih =>
    intro S x6 x7 x8 h
    exact wl_X8_whose_55 K X ih h
def F_X8_whose (fu : Nat) (S : Hp) (o : Nat) (x1 : Int32) (x2 : Int32) (x3 : Int32) : Option (Int32 × Hp) :=
  (ob S 6 (some o)).bind fun _ =>
  b2 (F_X8_sheetWrong S o x1) fun v2 S2 =>
  if v2 = 0 then
    (ob S2 6 (some o)).bind fun _ =>
    b2 (F_X8_isWrong S2 o x2) fun v17 S17 =>
    if v17 = 0 then
      some ((-6 : Int32), S17)
    else
      b2 (F_X8_in S17 x3 (0 : Int32) (1 : Int32)) fun v29 S29 =>
      if v29 = 0 then
        some ((-7 : Int32), S29)
      else
        (gR S29 (some o) 6 4).bind fun v39 =>
        (aG S29 v39 x2).bind fun v43 =>
        B_X8_whose_55 fu o x1 x2 x3 v43 fu S29 (0 : Int32) (-1 : Int32) (1 : Int32)
  else
    some (v2, S2)
set_option maxRecDepth 100000 in
set_option maxHeartbeats 4000000 in
theorem w_X8_whose {E : Cx} {l : Launch} {res : Int32 × Hp} {ad : Nat → Nat} {fu : Nat} {S : Hp} {o : Nat} {x1 : Int32} {x2 : Int32} {x3 : Int32} (K : Kx E cX8_whose RX8 (rmd 6 0 0)) (X : Bx E l yX8_whose 10 (some .int) 0 0 ad (QI res)) (h : F_X8_whose fu S o x1 x2 x3 = some res) : J E 0 0 0 [(0, vR (some o)), (1, vI x1), (2, vI x2), (3, vI x3)] [] S ad := by
  refine j_aload_n K dX8_whose_0 rfl 0 rfl ?_
  refine j_iload_n K dX8_whose_1 rfl 1 rfl ?_
  obtain ⟨w2, ew2, h⟩ := bd h
  have ho2 := obS ew2
  obtain ⟨v2, S2, e2, h⟩ := bd2 h
  refine j_cI (st := []) K (r_V (vs := [vI x1]) (n := 1) (o := o) K (c_X8_sheetWrong e2) ho2 (by decide) rfl dX8_whose_2 z1168 z1170 zs57 z13 z1171 ⟨zd_X8_sheetWrong, rfl, rfl, rfl, ⟨Nat.le_of_ble_eq_true rfl, Nat.le_of_ble_eq_true rfl⟩, Nat.le_of_ble_eq_true rfl, Nat.le_of_ble_eq_true rfl, Nat.le_of_ble_eq_true rfl⟩) rfl ?_
  refine j_istore (lv' := [(4, vI v2), (0, vR (some o)), (1, vI x1), (2, vI x2), (3, vI x3)]) K dX8_whose_5 X.2.2.1 (by decide) rfl ?_
  refine j_iload K dX8_whose_7 0 rfl ?_
  refine j_if_eq K dX8_whose_9 (fun c9 => ?_) (fun c9 => ?_)
  · replace h := it c9 h
    refine j_aload_n K dX8_whose_15 rfl 1 rfl ?_
    refine j_iload_n K dX8_whose_16 rfl 3 rfl ?_
    obtain ⟨w17, ew17, h⟩ := bd h
    have ho17 := obS ew17
    obtain ⟨v17, S17, e17, h⟩ := bd2 h
    refine j_cI (st := []) K (r_V (vs := [vI x2]) (n := 1) (o := o) K (c_X8_isWrong e17) ho17 (by decide) rfl dX8_whose_17 z975 z977 zs33 z13 z978 ⟨zd_X8_isWrong, rfl, rfl, rfl, ⟨Nat.le_of_ble_eq_true rfl, Nat.le_of_ble_eq_true rfl⟩, Nat.le_of_ble_eq_true rfl, Nat.le_of_ble_eq_true rfl, Nat.le_of_ble_eq_true rfl⟩) rfl ?_
    refine j_if_ne K dX8_whose_20 (fun c20 => ?_) (fun c20 => ?_)
    · replace h := ie c20 h
      refine j_iload_n K dX8_whose_26 rfl 4 rfl ?_
      refine j_iconst (v := (0 : Int32)) K dX8_whose_27 (by decide) ?_
      refine j_iconst (v := (1 : Int32)) K dX8_whose_28 (by decide) ?_
      obtain ⟨v29, S29, e29, h⟩ := bd2 h
      refine j_cI (st := []) K (r_S (vs := [vI x3, vI (0 : Int32), vI (1 : Int32)]) (n := 3) K (c_X8_in e29) dX8_whose_29 z812 z813 z13 z814 ⟨zd_X8_in, rfl, rfl, rfl, ⟨Nat.le_of_ble_eq_true rfl, Nat.le_of_ble_eq_true rfl⟩, Nat.le_of_ble_eq_true rfl, Nat.le_of_ble_eq_true rfl, Nat.le_of_ble_eq_true rfl⟩) rfl ?_
      refine j_if_ne K dX8_whose_32 (fun c32 => ?_) (fun c32 => ?_)
      · replace h := ie c32 h
        refine j_aload_n K dX8_whose_38 rfl 1 rfl ?_
        obtain ⟨v39, e39, h⟩ := bd h
        refine fgX8_19 K dX8_whose_39 e39 ?_
        refine j_iload_n K dX8_whose_42 rfl 3 rfl ?_
        obtain ⟨v43, e43, h⟩ := bd h
        refine j_aG K dX8_whose_43 e43 ?_
        refine j_istore (lv' := [(5, vI v43), (4, vI v2), (0, vR (some o)), (1, vI x1), (2, vI x2), (3, vI x3)]) K dX8_whose_44 X.2.2.1 (by decide) rfl ?_
        refine j_iconst (v := (0 : Int32)) K dX8_whose_46 (by decide) ?_
        refine j_istore (lv' := [(6, vI (0 : Int32)), (5, vI v43), (4, vI v2), (0, vR (some o)), (1, vI x1), (2, vI x2), (3, vI x3)]) K dX8_whose_47 X.2.2.1 (by decide) rfl ?_
        refine j_iconst (v := (-1 : Int32)) K dX8_whose_49 (by decide) ?_
        refine j_istore (lv' := [(7, vI (-1 : Int32)), (6, vI (0 : Int32)), (5, vI v43), (4, vI v2), (0, vR (some o)), (1, vI x1), (2, vI x2), (3, vI x3)]) K dX8_whose_50 X.2.2.1 (by decide) rfl ?_
        refine j_iconst (v := (1 : Int32)) K dX8_whose_52 (by decide) ?_
        refine j_istore (lv' := [(8, vI (1 : Int32)), (7, vI (-1 : Int32)), (6, vI (0 : Int32)), (5, vI v43), (4, vI v2), (0, vR (some o)), (1, vI x1), (2, vI x2), (3, vI x3)]) K dX8_whose_53 X.2.2.1 (by decide) rfl ?_
        exact j_sub [5, 6, 7, 8, 3, 2, 1, 0] rfl (w_X8_whose_55 K X _ _ _ _ _ h)
      · replace h := it c32 h
        refine j_bipush (v := (-7 : Int32)) K dX8_whose_35 (by decide) ?_
        exact j_iret K X dX8_whose_37 h
    · replace h := it c20 h
      refine j_bipush (v := (-6 : Int32)) K dX8_whose_23 (by decide) ?_
      exact j_iret K X dX8_whose_25 h
  · replace h := ie c9 h
    refine j_iload K dX8_whose_12 0 rfl ?_
    exact j_iret K X dX8_whose_14 h
theorem c_X8_whose {l : Launch} {fu : Nat} {S : Hp} {o : Nat} {x1 : Int32} {x2 : Int32} {x3 : Int32} {res : Int32 × Hp} (h : F_X8_whose fu S o x1 x2 x3 = some res) : Ct l yX8_whose cX8_whose 10 (some .int) (rmd 6 0 0) 0 0 [vR (some o), vI x1, vI x2, vI x3] S (QI res) :=
  z_entry (by decide +kernel) (Nat.le_of_ble_eq_true rfl) (fun E ad K X => w_X8_whose K X h)

theorem dX8_laws_0 : decode cX8_laws 0 = .ok (.aload_n 0, 1) ∧ 0 + 1 = 1 := ⟨by decide +kernel, rfl⟩
theorem dX8_laws_1 : decode cX8_laws 1 = .ok (.iload_n 1, 1) ∧ 1 + 1 = 2 := ⟨by decide +kernel, rfl⟩
theorem dX8_laws_2 : decode cX8_laws 2 = .ok (.invokevirtual 253, 3) := by decide +kernel
theorem dX8_laws_5 : decode cX8_laws 5 = .ok (.istore_n 2, 1) ∧ 5 + 1 = 6 := ⟨by decide +kernel, rfl⟩
theorem dX8_laws_6 : decode cX8_laws 6 = .ok (.iload_n 2, 1) ∧ 6 + 1 = 7 := ⟨by decide +kernel, rfl⟩
theorem dX8_laws_7 : decode cX8_laws 7 = .ok (.ifCond .eq 5, 3) ∧ 7 + 3 = 10 ∧ ((7 : Nat) : Int) + (5) = ((12 : Nat) : Int) := ⟨by decide +kernel, rfl, by decide⟩
theorem dX8_laws_10 : decode cX8_laws 10 = .ok (.iload_n 2, 1) ∧ 10 + 1 = 11 := ⟨by decide +kernel, rfl⟩
theorem dX8_laws_11 : decode cX8_laws 11 = .ok (.ireturn, 1) := by decide +kernel
theorem dX8_laws_12 : decode cX8_laws 12 = .ok (.aload_n 0, 1) ∧ 12 + 1 = 13 := ⟨by decide +kernel, rfl⟩
theorem dX8_laws_13 : decode cX8_laws 13 = .ok (.getfield 100, 3) ∧ 13 + 3 = 16 := ⟨by decide +kernel, rfl⟩
theorem dX8_laws_16 : decode cX8_laws 16 = .ok (.istore_n 3, 1) ∧ 16 + 1 = 17 := ⟨by decide +kernel, rfl⟩
theorem dX8_laws_17 : decode cX8_laws 17 = .ok (.iconst 0, 1) ∧ 17 + 1 = 18 := ⟨by decide +kernel, rfl⟩
theorem dX8_laws_18 : decode cX8_laws 18 = .ok (.istore 4, 2) ∧ 18 + 2 = 20 := ⟨by decide +kernel, rfl⟩
theorem dX8_laws_20 : decode cX8_laws 20 = .ok (.iconst 0, 1) ∧ 20 + 1 = 21 := ⟨by decide +kernel, rfl⟩
theorem dX8_laws_21 : decode cX8_laws 21 = .ok (.istore 5, 2) ∧ 21 + 2 = 23 := ⟨by decide +kernel, rfl⟩
theorem dX8_laws_23 : decode cX8_laws 23 = .ok (.iload 5, 2) ∧ 23 + 2 = 25 := ⟨by decide +kernel, rfl⟩
theorem dX8_laws_25 : decode cX8_laws 25 = .ok (.aload_n 0, 1) ∧ 25 + 1 = 26 := ⟨by decide +kernel, rfl⟩
theorem dX8_laws_26 : decode cX8_laws 26 = .ok (.getfield 97, 3) ∧ 26 + 3 = 29 := ⟨by decide +kernel, rfl⟩
theorem dX8_laws_29 : decode cX8_laws 29 = .ok (.if_icmp .ge 37, 3) ∧ 29 + 3 = 32 ∧ ((29 : Nat) : Int) + (37) = ((66 : Nat) : Int) := ⟨by decide +kernel, rfl, by decide⟩
theorem dX8_laws_32 : decode cX8_laws 32 = .ok (.aload_n 0, 1) ∧ 32 + 1 = 33 := ⟨by decide +kernel, rfl⟩
theorem dX8_laws_33 : decode cX8_laws 33 = .ok (.iload 5, 2) ∧ 33 + 2 = 35 := ⟨by decide +kernel, rfl⟩
theorem dX8_laws_35 : decode cX8_laws 35 = .ok (.putfield 100, 3) ∧ 35 + 3 = 38 := ⟨by decide +kernel, rfl⟩
theorem dX8_laws_38 : decode cX8_laws 38 = .ok (.iload 4, 2) ∧ 38 + 2 = 40 := ⟨by decide +kernel, rfl⟩
theorem dX8_laws_40 : decode cX8_laws 40 = .ok (.aload_n 0, 1) ∧ 40 + 1 = 41 := ⟨by decide +kernel, rfl⟩
theorem dX8_laws_41 : decode cX8_laws 41 = .ok (.iload_n 1, 1) ∧ 41 + 1 = 42 := ⟨by decide +kernel, rfl⟩
theorem dX8_laws_42 : decode cX8_laws 42 = .ok (.invokevirtual 256, 3) := by decide +kernel
theorem dX8_laws_45 : decode cX8_laws 45 = .ok (.iconst (-1), 1) ∧ 45 + 1 = 46 := ⟨by decide +kernel, rfl⟩
theorem dX8_laws_46 : decode cX8_laws 46 = .ok (.if_icmp .ne 10, 3) ∧ 46 + 3 = 49 ∧ ((46 : Nat) : Int) + (10) = ((56 : Nat) : Int) := ⟨by decide +kernel, rfl, by decide⟩
theorem dX8_laws_49 : decode cX8_laws 49 = .ok (.iconst 1, 1) ∧ 49 + 1 = 50 := ⟨by decide +kernel, rfl⟩
theorem dX8_laws_50 : decode cX8_laws 50 = .ok (.iload 5, 2) ∧ 50 + 2 = 52 := ⟨by decide +kernel, rfl⟩
theorem dX8_laws_52 : decode cX8_laws 52 = .ok (.ishl, 1) ∧ 52 + 1 = 53 := ⟨by decide +kernel, rfl⟩
theorem dX8_laws_53 : decode cX8_laws 53 = .ok (.goto 4, 3) ∧ ((53 : Nat) : Int) + (4) = ((57 : Nat) : Int) := ⟨by decide +kernel, by decide⟩
theorem dX8_laws_56 : decode cX8_laws 56 = .ok (.iconst 0, 1) ∧ 56 + 1 = 57 := ⟨by decide +kernel, rfl⟩
theorem dX8_laws_57 : decode cX8_laws 57 = .ok (.ior, 1) ∧ 57 + 1 = 58 := ⟨by decide +kernel, rfl⟩
theorem dX8_laws_58 : decode cX8_laws 58 = .ok (.istore 4, 2) ∧ 58 + 2 = 60 := ⟨by decide +kernel, rfl⟩
theorem dX8_laws_60 : decode cX8_laws 60 = .ok (.iinc 5 1, 3) ∧ 60 + 3 = 63 := ⟨by decide +kernel, rfl⟩
theorem dX8_laws_63 : decode cX8_laws 63 = .ok (.goto (-40), 3) ∧ ((63 : Nat) : Int) + (-40) = ((23 : Nat) : Int) := ⟨by decide +kernel, by decide⟩
theorem dX8_laws_66 : decode cX8_laws 66 = .ok (.aload_n 0, 1) ∧ 66 + 1 = 67 := ⟨by decide +kernel, rfl⟩
theorem dX8_laws_67 : decode cX8_laws 67 = .ok (.iload_n 3, 1) ∧ 67 + 1 = 68 := ⟨by decide +kernel, rfl⟩
theorem dX8_laws_68 : decode cX8_laws 68 = .ok (.putfield 100, 3) ∧ 68 + 3 = 71 := ⟨by decide +kernel, rfl⟩
theorem dX8_laws_71 : decode cX8_laws 71 = .ok (.iload 4, 2) ∧ 71 + 2 = 73 := ⟨by decide +kernel, rfl⟩
theorem dX8_laws_73 : decode cX8_laws 73 = .ok (.ireturn, 1) := by decide +kernel
def B_X8_laws_57 (k23 : Hp → Int32 → Int32 → Option (Int32 × Hp)) (fu : Nat) (o : Nat) (S : Hp) (x1 : Int32) (x3 : Int32) (x5 : Int32) (s0 : Int32) (s1 : Int32) : Option (Int32 × Hp) :=
  k23 S (s1 ||| s0) (x5 + (1 : Int32))
set_option maxRecDepth 100000 in
set_option maxHeartbeats 4000000 in
theorem w_X8_laws_57 {E : Cx} {l : Launch} {res : Int32 × Hp} {ad : Nat → Nat} {k23 : Hp → Int32 → Int32 → Option (Int32 × Hp)} {fu : Nat} {o : Nat} {S : Hp} {x1 : Int32} {x3 : Int32} {x5 : Int32} {s0 : Int32} {s1 : Int32} (K : Kx E cX8_laws RX8 (rmd 6 0 0)) (X : Bx E l yX8_laws 6 (some .int) 0 0 ad (QI res)) (hk23 : ∀ (S : Hp) (x4 : Int32) (x5 : Int32), k23 S x4 x5 = some res → J E 0 0 23 [(0, vR (some o)), (1, vI x1), (3, vI x3), (4, vI x4), (5, vI x5)] [] S ad) (h : B_X8_laws_57 k23 fu o S x1 x3 x5 s0 s1 = some res) : J E 0 0 57 [(0, vR (some o)), (1, vI x1), (3, vI x3), (5, vI x5)] [vI s0, vI s1] S ad := by
  refine j_ior K dX8_laws_57 ?_
  refine j_istore (lv' := [(4, vI (s1 ||| s0)), (0, vR (some o)), (1, vI x1), (3, vI x3), (5, vI x5)]) K dX8_laws_58 X.2.2.1 (by decide) rfl ?_
  refine j_iinc (q := 4) (v := (x5 + (1 : Int32))) (lv' := [(5, vI (x5 + (1 : Int32))), (4, vI (s1 ||| s0)), (0, vR (some o)), (1, vI x1), (3, vI x3)]) K dX8_laws_60 rfl rfl X.2.2.1 (by decide) rfl ?_
  refine j_goto K dX8_laws_63 ?_
  exact j_sub [2, 3, 4, 1, 0] rfl (hk23 _ _ _ h)
def L_X8_laws_23 (k23 : Hp → Int32 → Int32 → Option (Int32 × Hp)) (fu : Nat) (o : Nat) (x1 : Int32) (x3 : Int32) (S : Hp) (x4 : Int32) (x5 : Int32) : Option (Int32 × Hp) :=
  (gI S (some o) 6 13).bind fun v26 =>
  if v26 ≤ x5 then
    (pI S (some o) 6 14 x3).bind fun S68 =>
    some (x4, S68)
  else
    (pI S (some o) 6 14 x5).bind fun S35 =>
    (ob S35 6 (some o)).bind fun _ =>
    b2 (F_X8_unlike fu S35 o x1) fun v42 S42 =>
    if v42 = (-1 : Int32) then
      B_X8_laws_57 k23 fu o S42 x1 x3 x5 ((1 : Int32) <<< (x5 &&& 31)) x4
    else
      B_X8_laws_57 k23 fu o S42 x1 x3 x5 (0 : Int32) x4
set_option maxRecDepth 100000 in
set_option maxHeartbeats 4000000 in
theorem wl_X8_laws_23 {E : Cx} {l : Launch} {res : Int32 × Hp} {ad : Nat → Nat} {k23 : Hp → Int32 → Int32 → Option (Int32 × Hp)} {fu : Nat} {o : Nat} {S : Hp} {x1 : Int32} {x3 : Int32} {x4 : Int32} {x5 : Int32} (K : Kx E cX8_laws RX8 (rmd 6 0 0)) (X : Bx E l yX8_laws 6 (some .int) 0 0 ad (QI res)) (hk23 : ∀ (S : Hp) (x4 : Int32) (x5 : Int32), k23 S x4 x5 = some res → J E 0 0 23 [(0, vR (some o)), (1, vI x1), (3, vI x3), (4, vI x4), (5, vI x5)] [] S ad) (h : L_X8_laws_23 k23 fu o x1 x3 S x4 x5 = some res) : J E 0 0 23 [(0, vR (some o)), (1, vI x1), (3, vI x3), (4, vI x4), (5, vI x5)] [] S ad := by
  refine j_iload K dX8_laws_23 4 rfl ?_
  refine j_aload_n K dX8_laws_25 rfl 0 rfl ?_
  obtain ⟨v26, e26, h⟩ := bd h
  refine fgX8_97 K dX8_laws_26 e26 ?_
  refine j_icmp_ge K dX8_laws_29 (fun c29 => ?_) (fun c29 => ?_)
  · replace h := it c29 h
    refine j_aload_n K dX8_laws_66 rfl 0 rfl ?_
    refine j_iload_n K dX8_laws_67 rfl 2 rfl ?_
    obtain ⟨S68, e68, h⟩ := bd h
    refine fpX8_100 K dX8_laws_68 e68 ?_
    refine j_iload K dX8_laws_71 3 rfl ?_
    exact j_iret K X dX8_laws_73 h
  · replace h := ie c29 h
    refine j_aload_n K dX8_laws_32 rfl 0 rfl ?_
    refine j_iload K dX8_laws_33 4 rfl ?_
    obtain ⟨S35, e35, h⟩ := bd h
    refine fpX8_100 K dX8_laws_35 e35 ?_
    refine j_iload K dX8_laws_38 3 rfl ?_
    refine j_aload_n K dX8_laws_40 rfl 0 rfl ?_
    refine j_iload_n K dX8_laws_41 rfl 1 rfl ?_
    obtain ⟨w42, ew42, h⟩ := bd h
    have ho42 := obS ew42
    obtain ⟨v42, S42, e42, h⟩ := bd2 h
    refine j_cI (st := [vI x4]) K (r_V (vs := [vI x1]) (n := 1) (o := o) K (c_X8_unlike e42) ho42 (by decide) rfl dX8_laws_42 z1172 z1174 zs58 z13 z1175 ⟨zd_X8_unlike, rfl, rfl, rfl, ⟨Nat.le_of_ble_eq_true rfl, Nat.le_of_ble_eq_true rfl⟩, Nat.le_of_ble_eq_true rfl, Nat.le_of_ble_eq_true rfl, Nat.le_of_ble_eq_true rfl⟩) rfl ?_
    refine j_iconst (v := (-1 : Int32)) K dX8_laws_45 (by decide) ?_
    refine j_icmp_ne K dX8_laws_46 (fun c46 => ?_) (fun c46 => ?_)
    · replace h := ie c46 h
      refine j_iconst (v := (0 : Int32)) K dX8_laws_56 (by decide) ?_
      exact j_sub [0, 1, 2, 4] rfl (w_X8_laws_57 K X hk23 h)
    · replace h := it c46 h
      refine j_iconst (v := (1 : Int32)) K dX8_laws_49 (by decide) ?_
      refine j_iload K dX8_laws_50 4 rfl ?_
      refine j_ishl K dX8_laws_52 ?_
      refine j_goto K dX8_laws_53 ?_
      exact j_sub [0, 1, 2, 4] rfl (w_X8_laws_57 K X hk23 h)
def B_X8_laws_23 (fu : Nat) (o : Nat) (x1 : Int32) (x3 : Int32) : Nat → Hp → Int32 → Int32 → Option (Int32 × Hp)
  | 0 => fun _ _ _ => none
  | n + 1 => L_X8_laws_23 (B_X8_laws_23 fu o x1 x3 n) fu o x1 x3
theorem w_X8_laws_23 {E : Cx} {l : Launch} {res : Int32 × Hp} {ad : Nat → Nat} {fu : Nat} {o : Nat} {x1 : Int32} {x3 : Int32} (K : Kx E cX8_laws RX8 (rmd 6 0 0)) (X : Bx E l yX8_laws 6 (some .int) 0 0 ad (QI res)) : ∀ (n : Nat) (S : Hp) (x4 : Int32) (x5 : Int32), B_X8_laws_23 fu o x1 x3 n S x4 x5 = some res → J E 0 0 23 [(0, vR (some o)), (1, vI x1), (3, vI x3), (4, vI x4), (5, vI x5)] [] S ad := by
  intro n
  induction n with
  | zero =>
    intro S x4 x5 h
    cases h
  | succ n ih =>
    intro S x4 x5 h
    exact wl_X8_laws_23 K X ih h
def F_X8_laws (fu : Nat) (S : Hp) (o : Nat) (x1 : Int32) : Option (Int32 × Hp) :=
  (ob S 6 (some o)).bind fun _ =>
  b2 (F_X8_sheetWrong S o x1) fun v2 S2 =>
  if v2 = 0 then
    (gI S2 (some o) 6 14).bind fun v13 =>
    B_X8_laws_23 fu o x1 v13 fu S2 (0 : Int32) (0 : Int32)
  else
    some (v2, S2)
set_option maxRecDepth 100000 in
set_option maxHeartbeats 4000000 in
theorem w_X8_laws {E : Cx} {l : Launch} {res : Int32 × Hp} {ad : Nat → Nat} {fu : Nat} {S : Hp} {o : Nat} {x1 : Int32} (K : Kx E cX8_laws RX8 (rmd 6 0 0)) (X : Bx E l yX8_laws 6 (some .int) 0 0 ad (QI res)) (h : F_X8_laws fu S o x1 = some res) : J E 0 0 0 [(0, vR (some o)), (1, vI x1)] [] S ad := by
  refine j_aload_n K dX8_laws_0 rfl 0 rfl ?_
  refine j_iload_n K dX8_laws_1 rfl 1 rfl ?_
  obtain ⟨w2, ew2, h⟩ := bd h
  have ho2 := obS ew2
  obtain ⟨v2, S2, e2, h⟩ := bd2 h
  refine j_cI (st := []) K (r_V (vs := [vI x1]) (n := 1) (o := o) K (c_X8_sheetWrong e2) ho2 (by decide) rfl dX8_laws_2 z1168 z1170 zs57 z13 z1171 ⟨zd_X8_sheetWrong, rfl, rfl, rfl, ⟨Nat.le_of_ble_eq_true rfl, Nat.le_of_ble_eq_true rfl⟩, Nat.le_of_ble_eq_true rfl, Nat.le_of_ble_eq_true rfl, Nat.le_of_ble_eq_true rfl⟩) rfl ?_
  refine j_istore_n (lv' := [(2, vI v2), (0, vR (some o)), (1, vI x1)]) K dX8_laws_5 rfl X.2.2.1 (by decide) rfl ?_
  refine j_iload_n K dX8_laws_6 rfl 0 rfl ?_
  refine j_if_eq K dX8_laws_7 (fun c7 => ?_) (fun c7 => ?_)
  · replace h := it c7 h
    refine j_aload_n K dX8_laws_12 rfl 1 rfl ?_
    obtain ⟨v13, e13, h⟩ := bd h
    refine fgX8_100 K dX8_laws_13 e13 ?_
    refine j_istore_n (lv' := [(3, vI v13), (2, vI v2), (0, vR (some o)), (1, vI x1)]) K dX8_laws_16 rfl X.2.2.1 (by decide) rfl ?_
    refine j_iconst (v := (0 : Int32)) K dX8_laws_17 (by decide) ?_
    refine j_istore (lv' := [(4, vI (0 : Int32)), (3, vI v13), (2, vI v2), (0, vR (some o)), (1, vI x1)]) K dX8_laws_18 X.2.2.1 (by decide) rfl ?_
    refine j_iconst (v := (0 : Int32)) K dX8_laws_20 (by decide) ?_
    refine j_istore (lv' := [(5, vI (0 : Int32)), (4, vI (0 : Int32)), (3, vI v13), (2, vI v2), (0, vR (some o)), (1, vI x1)]) K dX8_laws_21 X.2.2.1 (by decide) rfl ?_
    exact j_sub [4, 5, 2, 1, 0] rfl (w_X8_laws_23 K X _ _ _ _ h)
  · replace h := ie c7 h
    refine j_iload_n K dX8_laws_10 rfl 0 rfl ?_
    exact j_iret K X dX8_laws_11 h
theorem c_X8_laws {l : Launch} {fu : Nat} {S : Hp} {o : Nat} {x1 : Int32} {res : Int32 × Hp} (h : F_X8_laws fu S o x1 = some res) : Ct l yX8_laws cX8_laws 6 (some .int) (rmd 6 0 0) 0 0 [vR (some o), vI x1] S (QI res) :=
  z_entry (by decide +kernel) (Nat.le_of_ble_eq_true rfl) (fun E ad K X => w_X8_laws K X h)

theorem dX8_film_0 : decode cX8_film 0 = .ok (.iload_n 1, 1) ∧ 0 + 1 = 1 := ⟨by decide +kernel, rfl⟩
theorem dX8_film_1 : decode cX8_film 1 = .ok (.iconst 0, 1) ∧ 1 + 1 = 2 := ⟨by decide +kernel, rfl⟩
theorem dX8_film_2 : decode cX8_film 2 = .ok (.iconst 3, 1) ∧ 2 + 1 = 3 := ⟨by decide +kernel, rfl⟩
theorem dX8_film_3 : decode cX8_film 3 = .ok (.invokestatic 87, 3) := by decide +kernel
theorem dX8_film_6 : decode cX8_film 6 = .ok (.ifCond .ne 6, 3) ∧ 6 + 3 = 9 ∧ ((6 : Nat) : Int) + (6) = ((12 : Nat) : Int) := ⟨by decide +kernel, rfl, by decide⟩
theorem dX8_film_9 : decode cX8_film 9 = .ok (.bipush (-2), 2) ∧ 9 + 2 = 11 := ⟨by decide +kernel, rfl⟩
theorem dX8_film_11 : decode cX8_film 11 = .ok (.ireturn, 1) := by decide +kernel
theorem dX8_film_12 : decode cX8_film 12 = .ok (.aload_n 0, 1) ∧ 12 + 1 = 13 := ⟨by decide +kernel, rfl⟩
theorem dX8_film_13 : decode cX8_film 13 = .ok (.getfield 43, 3) ∧ 13 + 3 = 16 := ⟨by decide +kernel, rfl⟩
theorem dX8_film_16 : decode cX8_film 16 = .ok (.iload_n 1, 1) ∧ 16 + 1 = 17 := ⟨by decide +kernel, rfl⟩
theorem dX8_film_17 : decode cX8_film 17 = .ok (.iconst 1, 1) ∧ 17 + 1 = 18 := ⟨by decide +kernel, rfl⟩
theorem dX8_film_18 : decode cX8_film 18 = .ok (.iastore, 1) ∧ 18 + 1 = 19 := ⟨by decide +kernel, rfl⟩
theorem dX8_film_19 : decode cX8_film 19 = .ok (.aload_n 0, 1) ∧ 19 + 1 = 20 := ⟨by decide +kernel, rfl⟩
theorem dX8_film_20 : decode cX8_film 20 = .ok (.getfield 46, 3) ∧ 20 + 3 = 23 := ⟨by decide +kernel, rfl⟩
theorem dX8_film_23 : decode cX8_film 23 = .ok (.iload_n 1, 1) ∧ 23 + 1 = 24 := ⟨by decide +kernel, rfl⟩
theorem dX8_film_24 : decode cX8_film 24 = .ok (.aload_n 0, 1) ∧ 24 + 1 = 25 := ⟨by decide +kernel, rfl⟩
theorem dX8_film_25 : decode cX8_film 25 = .ok (.getfield 84, 3) ∧ 25 + 3 = 28 := ⟨by decide +kernel, rfl⟩
theorem dX8_film_28 : decode cX8_film 28 = .ok (.iastore, 1) ∧ 28 + 1 = 29 := ⟨by decide +kernel, rfl⟩
theorem dX8_film_29 : decode cX8_film 29 = .ok (.iconst 0, 1) ∧ 29 + 1 = 30 := ⟨by decide +kernel, rfl⟩
theorem dX8_film_30 : decode cX8_film 30 = .ok (.istore_n 2, 1) ∧ 30 + 1 = 31 := ⟨by decide +kernel, rfl⟩
theorem dX8_film_31 : decode cX8_film 31 = .ok (.iload_n 2, 1) ∧ 31 + 1 = 32 := ⟨by decide +kernel, rfl⟩
theorem dX8_film_32 : decode cX8_film 32 = .ok (.bipush 40, 2) ∧ 32 + 2 = 34 := ⟨by decide +kernel, rfl⟩
theorem dX8_film_34 : decode cX8_film 34 = .ok (.if_icmp .ge 42, 3) ∧ 34 + 3 = 37 ∧ ((34 : Nat) : Int) + (42) = ((76 : Nat) : Int) := ⟨by decide +kernel, rfl, by decide⟩
theorem dX8_film_37 : decode cX8_film 37 = .ok (.aload_n 0, 1) ∧ 37 + 1 = 38 := ⟨by decide +kernel, rfl⟩
theorem dX8_film_38 : decode cX8_film 38 = .ok (.getfield 49, 3) ∧ 38 + 3 = 41 := ⟨by decide +kernel, rfl⟩
theorem dX8_film_41 : decode cX8_film 41 = .ok (.bipush 40, 2) ∧ 41 + 2 = 43 := ⟨by decide +kernel, rfl⟩
theorem dX8_film_43 : decode cX8_film 43 = .ok (.iload_n 1, 1) ∧ 43 + 1 = 44 := ⟨by decide +kernel, rfl⟩
theorem dX8_film_44 : decode cX8_film 44 = .ok (.imul, 1) ∧ 44 + 1 = 45 := ⟨by decide +kernel, rfl⟩
theorem dX8_film_45 : decode cX8_film 45 = .ok (.iload_n 2, 1) ∧ 45 + 1 = 46 := ⟨by decide +kernel, rfl⟩
theorem dX8_film_46 : decode cX8_film 46 = .ok (.iadd, 1) ∧ 46 + 1 = 47 := ⟨by decide +kernel, rfl⟩
theorem dX8_film_47 : decode cX8_film 47 = .ok (.iload_n 2, 1) ∧ 47 + 1 = 48 := ⟨by decide +kernel, rfl⟩
theorem dX8_film_48 : decode cX8_film 48 = .ok (.aload_n 0, 1) ∧ 48 + 1 = 49 := ⟨by decide +kernel, rfl⟩
theorem dX8_film_49 : decode cX8_film 49 = .ok (.getfield 84, 3) ∧ 49 + 3 = 52 := ⟨by decide +kernel, rfl⟩
theorem dX8_film_52 : decode cX8_film 52 = .ok (.if_icmp .ge 16, 3) ∧ 52 + 3 = 55 ∧ ((52 : Nat) : Int) + (16) = ((68 : Nat) : Int) := ⟨by decide +kernel, rfl, by decide⟩
theorem dX8_film_55 : decode cX8_film 55 = .ok (.aload_n 0, 1) ∧ 55 + 1 = 56 := ⟨by decide +kernel, rfl⟩
theorem dX8_film_56 : decode cX8_film 56 = .ok (.iload_n 2, 1) ∧ 56 + 1 = 57 := ⟨by decide +kernel, rfl⟩
theorem dX8_film_57 : decode cX8_film 57 = .ok (.iconst 0, 1) ∧ 57 + 1 = 58 := ⟨by decide +kernel, rfl⟩
theorem dX8_film_58 : decode cX8_film 58 = .ok (.iconst 5, 1) ∧ 58 + 1 = 59 := ⟨by decide +kernel, rfl⟩
theorem dX8_film_59 : decode cX8_film 59 = .ok (.invokestatic 179, 3) := by decide +kernel
theorem dX8_film_62 : decode cX8_film 62 = .ok (.invokevirtual 214, 3) := by decide +kernel
theorem dX8_film_65 : decode cX8_film 65 = .ok (.goto 4, 3) ∧ ((65 : Nat) : Int) + (4) = ((69 : Nat) : Int) := ⟨by decide +kernel, by decide⟩
theorem dX8_film_68 : decode cX8_film 68 = .ok (.iconst 0, 1) ∧ 68 + 1 = 69 := ⟨by decide +kernel, rfl⟩
theorem dX8_film_69 : decode cX8_film 69 = .ok (.iastore, 1) ∧ 69 + 1 = 70 := ⟨by decide +kernel, rfl⟩
theorem dX8_film_70 : decode cX8_film 70 = .ok (.iinc 2 1, 3) ∧ 70 + 3 = 73 := ⟨by decide +kernel, rfl⟩
theorem dX8_film_73 : decode cX8_film 73 = .ok (.goto (-42), 3) ∧ ((73 : Nat) : Int) + (-42) = ((31 : Nat) : Int) := ⟨by decide +kernel, by decide⟩
theorem dX8_film_76 : decode cX8_film 76 = .ok (.aload_n 0, 1) ∧ 76 + 1 = 77 := ⟨by decide +kernel, rfl⟩
theorem dX8_film_77 : decode cX8_film 77 = .ok (.getfield 84, 3) ∧ 77 + 3 = 80 := ⟨by decide +kernel, rfl⟩
theorem dX8_film_80 : decode cX8_film 80 = .ok (.ireturn, 1) := by decide +kernel
def B_X8_film_69 (k31 : Hp → Int32 → Option (Int32 × Hp)) (fu : Nat) (o : Nat) (S : Hp) (x1 : Int32) (x2 : Int32) (s0 : Int32) (s1 : Int32) (s2 : Option Nat) : Option (Int32 × Hp) :=
  (aP S s2 s1 s0).bind fun S69 =>
  k31 S69 (x2 + (1 : Int32))
set_option maxRecDepth 100000 in
set_option maxHeartbeats 4000000 in
theorem w_X8_film_69 {E : Cx} {l : Launch} {res : Int32 × Hp} {ad : Nat → Nat} {k31 : Hp → Int32 → Option (Int32 × Hp)} {fu : Nat} {o : Nat} {S : Hp} {x1 : Int32} {x2 : Int32} {s0 : Int32} {s1 : Int32} {s2 : Option Nat} (K : Kx E cX8_film RX8 (rmd 5 0 0)) (X : Bx E l yX8_film 3 (some .int) 0 0 ad (QI res)) (hk31 : ∀ (S : Hp) (x2 : Int32), k31 S x2 = some res → J E 0 0 31 [(0, vR (some o)), (1, vI x1), (2, vI x2)] [] S ad) (h : B_X8_film_69 k31 fu o S x1 x2 s0 s1 s2 = some res) : J E 0 0 69 [(0, vR (some o)), (1, vI x1), (2, vI x2)] [vI s0, vI s1, vR s2] S ad := by
  obtain ⟨S69, e69, h⟩ := bd h
  refine j_aP K dX8_film_69 e69 ?_
  refine j_iinc (q := 2) (v := (x2 + (1 : Int32))) (lv' := [(2, vI (x2 + (1 : Int32))), (0, vR (some o)), (1, vI x1)]) K dX8_film_70 rfl rfl X.2.2.1 (by decide) rfl ?_
  refine j_goto K dX8_film_73 ?_
  exact j_sub [1, 2, 0] rfl (hk31 _ _ h)
def L_X8_film_31 (k31 : Hp → Int32 → Option (Int32 × Hp)) (fu : Nat) (o : Nat) (x1 : Int32) (S : Hp) (x2 : Int32) : Option (Int32 × Hp) :=
  if (40 : Int32) ≤ x2 then
    (gI S (some o) 6 0).bind fun v77 =>
    some (v77, S)
  else
    (gR S (some o) 6 20).bind fun v38 =>
    (gI S (some o) 6 0).bind fun v49 =>
    if v49 ≤ x2 then
      B_X8_film_69 k31 fu o S x1 x2 (0 : Int32) (((40 : Int32) * x1) + x2) v38
    else
      b2 (F_X8_within S x2 (0 : Int32) (5 : Int32)) fun v59 S59 =>
      (ob S59 6 (some o)).bind fun _ =>
      b2 (F_X8_beatsOf fu S59 o v59) fun v62 S62 =>
      B_X8_film_69 k31 fu o S62 x1 x2 v62 (((40 : Int32) * x1) + x2) v38
set_option maxRecDepth 100000 in
set_option maxHeartbeats 4000000 in
theorem wl_X8_film_31 {E : Cx} {l : Launch} {res : Int32 × Hp} {ad : Nat → Nat} {k31 : Hp → Int32 → Option (Int32 × Hp)} {fu : Nat} {o : Nat} {S : Hp} {x1 : Int32} {x2 : Int32} (K : Kx E cX8_film RX8 (rmd 5 0 0)) (X : Bx E l yX8_film 3 (some .int) 0 0 ad (QI res)) (hk31 : ∀ (S : Hp) (x2 : Int32), k31 S x2 = some res → J E 0 0 31 [(0, vR (some o)), (1, vI x1), (2, vI x2)] [] S ad) (h : L_X8_film_31 k31 fu o x1 S x2 = some res) : J E 0 0 31 [(0, vR (some o)), (1, vI x1), (2, vI x2)] [] S ad := by
  refine j_iload_n K dX8_film_31 rfl 2 rfl ?_
  refine j_bipush (v := (40 : Int32)) K dX8_film_32 (by decide) ?_
  refine j_icmp_ge K dX8_film_34 (fun c34 => ?_) (fun c34 => ?_)
  · replace h := it c34 h
    refine j_aload_n K dX8_film_76 rfl 0 rfl ?_
    obtain ⟨v77, e77, h⟩ := bd h
    refine fgX8_84 K dX8_film_77 e77 ?_
    exact j_iret K X dX8_film_80 h
  · replace h := ie c34 h
    refine j_aload_n K dX8_film_37 rfl 0 rfl ?_
    obtain ⟨v38, e38, h⟩ := bd h
    refine fgX8_49 K dX8_film_38 e38 ?_
    refine j_bipush (v := (40 : Int32)) K dX8_film_41 (by decide) ?_
    refine j_iload_n K dX8_film_43 rfl 1 rfl ?_
    refine j_imul K dX8_film_44 ?_
    refine j_iload_n K dX8_film_45 rfl 2 rfl ?_
    refine j_iadd K dX8_film_46 ?_
    refine j_iload_n K dX8_film_47 rfl 2 rfl ?_
    refine j_aload_n K dX8_film_48 rfl 0 rfl ?_
    obtain ⟨v49, e49, h⟩ := bd h
    refine fgX8_84 K dX8_film_49 e49 ?_
    refine j_icmp_ge K dX8_film_52 (fun c52 => ?_) (fun c52 => ?_)
    · replace h := it c52 h
      refine j_iconst (v := (0 : Int32)) K dX8_film_68 (by decide) ?_
      exact w_X8_film_69 K X hk31 h
    · replace h := ie c52 h
      refine j_aload_n K dX8_film_55 rfl 0 rfl ?_
      refine j_iload_n K dX8_film_56 rfl 2 rfl ?_
      refine j_iconst (v := (0 : Int32)) K dX8_film_57 (by decide) ?_
      refine j_iconst (v := (5 : Int32)) K dX8_film_58 (by decide) ?_
      obtain ⟨v59, S59, e59, h⟩ := bd2 h
      refine j_cI (st := [vR (some o), vI (((40 : Int32) * x1) + x2), vR v38]) K (r_S (vs := [vI x2, vI (0 : Int32), vI (5 : Int32)]) (n := 3) K (c_X8_within e59) dX8_film_59 z1021 z1022 z13 z1023 ⟨zd_X8_within, rfl, rfl, rfl, ⟨Nat.le_of_ble_eq_true rfl, Nat.le_of_ble_eq_true rfl⟩, Nat.le_of_ble_eq_true rfl, Nat.le_of_ble_eq_true rfl, Nat.le_of_ble_eq_true rfl⟩) rfl ?_
      obtain ⟨w62, ew62, h⟩ := bd h
      have ho62 := obS ew62
      obtain ⟨v62, S62, e62, h⟩ := bd2 h
      refine j_cI (st := [vI (((40 : Int32) * x1) + x2), vR v38]) K (r_V (vs := [vI v59]) (n := 1) (o := o) K (c_X8_beatsOf e62) ho62 (by decide) rfl dX8_film_62 z1052 z1054 zs41 z13 z1055 ⟨zd_X8_beatsOf, rfl, rfl, rfl, ⟨Nat.le_of_ble_eq_true rfl, Nat.le_of_ble_eq_true rfl⟩, Nat.le_of_ble_eq_true rfl, Nat.le_of_ble_eq_true rfl, Nat.le_of_ble_eq_true rfl⟩) rfl ?_
      refine j_goto K dX8_film_65 ?_
      exact w_X8_film_69 K X hk31 h
def B_X8_film_31 (fu : Nat) (o : Nat) (x1 : Int32) : Nat → Hp → Int32 → Option (Int32 × Hp)
  | 0 => fun _ _ => none
  | n + 1 => L_X8_film_31 (B_X8_film_31 fu o x1 n) fu o x1
theorem w_X8_film_31 {E : Cx} {l : Launch} {res : Int32 × Hp} {ad : Nat → Nat} {fu : Nat} {o : Nat} {x1 : Int32} (K : Kx E cX8_film RX8 (rmd 5 0 0)) (X : Bx E l yX8_film 3 (some .int) 0 0 ad (QI res)) : ∀ (n : Nat) (S : Hp) (x2 : Int32), B_X8_film_31 fu o x1 n S x2 = some res → J E 0 0 31 [(0, vR (some o)), (1, vI x1), (2, vI x2)] [] S ad := by
  intro n
  induction n with
  | zero =>
    intro S x2 h
    cases h
  | succ n ih =>
    intro S x2 h
    exact wl_X8_film_31 K X ih h
def F_X8_film (fu : Nat) (S : Hp) (o : Nat) (x1 : Int32) : Option (Int32 × Hp) :=
  b2 (F_X8_in S x1 (0 : Int32) (3 : Int32)) fun v3 S3 =>
  if v3 = 0 then
    some ((-2 : Int32), S3)
  else
    (gR S3 (some o) 6 18).bind fun v13 =>
    (aP S3 v13 x1 (1 : Int32)).bind fun S18 =>
    (gR S18 (some o) 6 19).bind fun v20 =>
    (gI S18 (some o) 6 0).bind fun v25 =>
    (aP S18 v20 x1 v25).bind fun S28 =>
    B_X8_film_31 fu o x1 fu S28 (0 : Int32)
set_option maxRecDepth 100000 in
set_option maxHeartbeats 4000000 in
theorem w_X8_film {E : Cx} {l : Launch} {res : Int32 × Hp} {ad : Nat → Nat} {fu : Nat} {S : Hp} {o : Nat} {x1 : Int32} (K : Kx E cX8_film RX8 (rmd 5 0 0)) (X : Bx E l yX8_film 3 (some .int) 0 0 ad (QI res)) (h : F_X8_film fu S o x1 = some res) : J E 0 0 0 [(0, vR (some o)), (1, vI x1)] [] S ad := by
  refine j_iload_n K dX8_film_0 rfl 1 rfl ?_
  refine j_iconst (v := (0 : Int32)) K dX8_film_1 (by decide) ?_
  refine j_iconst (v := (3 : Int32)) K dX8_film_2 (by decide) ?_
  obtain ⟨v3, S3, e3, h⟩ := bd2 h
  refine j_cI (st := []) K (r_S (vs := [vI x1, vI (0 : Int32), vI (3 : Int32)]) (n := 3) K (c_X8_in e3) dX8_film_3 z812 z813 z13 z814 ⟨zd_X8_in, rfl, rfl, rfl, ⟨Nat.le_of_ble_eq_true rfl, Nat.le_of_ble_eq_true rfl⟩, Nat.le_of_ble_eq_true rfl, Nat.le_of_ble_eq_true rfl, Nat.le_of_ble_eq_true rfl⟩) rfl ?_
  refine j_if_ne K dX8_film_6 (fun c6 => ?_) (fun c6 => ?_)
  · replace h := ie c6 h
    refine j_aload_n K dX8_film_12 rfl 0 rfl ?_
    obtain ⟨v13, e13, h⟩ := bd h
    refine fgX8_43 K dX8_film_13 e13 ?_
    refine j_iload_n K dX8_film_16 rfl 1 rfl ?_
    refine j_iconst (v := (1 : Int32)) K dX8_film_17 (by decide) ?_
    obtain ⟨S18, e18, h⟩ := bd h
    refine j_aP K dX8_film_18 e18 ?_
    refine j_aload_n K dX8_film_19 rfl 0 rfl ?_
    obtain ⟨v20, e20, h⟩ := bd h
    refine fgX8_46 K dX8_film_20 e20 ?_
    refine j_iload_n K dX8_film_23 rfl 1 rfl ?_
    refine j_aload_n K dX8_film_24 rfl 0 rfl ?_
    obtain ⟨v25, e25, h⟩ := bd h
    refine fgX8_84 K dX8_film_25 e25 ?_
    obtain ⟨S28, e28, h⟩ := bd h
    refine j_aP K dX8_film_28 e28 ?_
    refine j_iconst (v := (0 : Int32)) K dX8_film_29 (by decide) ?_
    refine j_istore_n (lv' := [(2, vI (0 : Int32)), (0, vR (some o)), (1, vI x1)]) K dX8_film_30 rfl X.2.2.1 (by decide) rfl ?_
    exact j_sub [1, 2, 0] rfl (w_X8_film_31 K X _ _ _ h)
  · replace h := it c6 h
    refine j_bipush (v := (-2 : Int32)) K dX8_film_9 (by decide) ?_
    exact j_iret K X dX8_film_11 h
theorem c_X8_film {l : Launch} {fu : Nat} {S : Hp} {o : Nat} {x1 : Int32} {res : Int32 × Hp} (h : F_X8_film fu S o x1 = some res) : Ct l yX8_film cX8_film 3 (some .int) (rmd 5 0 0) 0 0 [vR (some o), vI x1] S (QI res) :=
  z_entry (by decide +kernel) (Nat.le_of_ble_eq_true rfl) (fun E ad K X => w_X8_film K X h)
