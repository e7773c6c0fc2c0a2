theorem dX7_kinds_0 : decode cX7_kinds 0 = .ok (.aload_n 0, 1) ∧ 0 + 1 = 1 := ⟨by decide +kernel, rfl⟩
theorem dX7_kinds_1 : decode cX7_kinds 1 = .ok (.iload_n 1, 1) ∧ 1 + 1 = 2 := ⟨by decide +kernel, rfl⟩
theorem dX7_kinds_2 : decode cX7_kinds 2 = .ok (.invokevirtual 252, 3) := by decide +kernel
theorem dX7_kinds_5 : decode cX7_kinds 5 = .ok (.astore 4, 2) ∧ 5 + 2 = 7 := ⟨by decide +kernel, rfl⟩
theorem dX7_kinds_7 : decode cX7_kinds 7 = .ok (.aload_n 0, 1) ∧ 7 + 1 = 8 := ⟨by decide +kernel, rfl⟩
theorem dX7_kinds_8 : decode cX7_kinds 8 = .ok (.aload 4, 2) ∧ 8 + 2 = 10 := ⟨by decide +kernel, rfl⟩
theorem dX7_kinds_10 : decode cX7_kinds 10 = .ok (.iload_n 2, 1) ∧ 10 + 1 = 11 := ⟨by decide +kernel, rfl⟩
theorem dX7_kinds_11 : decode cX7_kinds 11 = .ok (.iload_n 3, 1) ∧ 11 + 1 = 12 := ⟨by decide +kernel, rfl⟩
theorem dX7_kinds_12 : decode cX7_kinds 12 = .ok (.invokevirtual 264, 3) := by decide +kernel
theorem dX7_kinds_15 : decode cX7_kinds 15 = .ok (.istore 5, 2) ∧ 15 + 2 = 17 := ⟨by decide +kernel, rfl⟩
theorem dX7_kinds_17 : decode cX7_kinds 17 = .ok (.aload 4, 2) ∧ 17 + 2 = 19 := ⟨by decide +kernel, rfl⟩
theorem dX7_kinds_19 : decode cX7_kinds 19 = .ok (.ifnull 8, 3) ∧ 19 + 3 = 22 ∧ ((19 : Nat) : Int) + (8) = ((27 : Nat) : Int) := ⟨by decide +kernel, rfl, by decide⟩
theorem dX7_kinds_22 : decode cX7_kinds 22 = .ok (.iload 5, 2) ∧ 22 + 2 = 24 := ⟨by decide +kernel, rfl⟩
theorem dX7_kinds_24 : decode cX7_kinds 24 = .ok (.ifCond .eq 6, 3) ∧ 24 + 3 = 27 ∧ ((24 : Nat) : Int) + (6) = ((30 : Nat) : Int) := ⟨by decide +kernel, rfl, by decide⟩
theorem dX7_kinds_27 : decode cX7_kinds 27 = .ok (.iload 5, 2) ∧ 27 + 2 = 29 := ⟨by decide +kernel, rfl⟩
theorem dX7_kinds_29 : decode cX7_kinds 29 = .ok (.ireturn, 1) := by decide +kernel
theorem dX7_kinds_30 : decode cX7_kinds 30 = .ok (.aload_n 0, 1) ∧ 30 + 1 = 31 := ⟨by decide +kernel, rfl⟩
theorem dX7_kinds_31 : decode cX7_kinds 31 = .ok (.getfield 16, 3) ∧ 31 + 3 = 34 := ⟨by decide +kernel, rfl⟩
theorem dX7_kinds_34 : decode cX7_kinds 34 = .ok (.aload_n 0, 1) ∧ 34 + 1 = 35 := ⟨by decide +kernel, rfl⟩
theorem dX7_kinds_35 : decode cX7_kinds 35 = .ok (.getfield 10, 3) ∧ 35 + 3 = 38 := ⟨by decide +kernel, rfl⟩
theorem dX7_kinds_38 : decode cX7_kinds 38 = .ok (.invokevirtual 230, 3) := by decide +kernel
theorem dX7_kinds_41 : decode cX7_kinds 41 = .ok (.iload_n 3, 1) ∧ 41 + 1 = 42 := ⟨by decide +kernel, rfl⟩
theorem dX7_kinds_42 : decode cX7_kinds 42 = .ok (.ifCond .ne 13, 3) ∧ 42 + 3 = 45 ∧ ((42 : Nat) : Int) + (13) = ((55 : Nat) : Int) := ⟨by decide +kernel, rfl, by decide⟩
theorem dX7_kinds_45 : decode cX7_kinds 45 = .ok (.aload_n 0, 1) ∧ 45 + 1 = 46 := ⟨by decide +kernel, rfl⟩
theorem dX7_kinds_46 : decode cX7_kinds 46 = .ok (.getfield 16, 3) ∧ 46 + 3 = 49 := ⟨by decide +kernel, rfl⟩
theorem dX7_kinds_49 : decode cX7_kinds 49 = .ok (.getfield 168, 3) ∧ 49 + 3 = 52 := ⟨by decide +kernel, rfl⟩
theorem dX7_kinds_52 : decode cX7_kinds 52 = .ok (.goto 10, 3) ∧ ((52 : Nat) : Int) + (10) = ((62 : Nat) : Int) := ⟨by decide +kernel, by decide⟩
theorem dX7_kinds_55 : decode cX7_kinds 55 = .ok (.aload_n 0, 1) ∧ 55 + 1 = 56 := ⟨by decide +kernel, rfl⟩
theorem dX7_kinds_56 : decode cX7_kinds 56 = .ok (.getfield 16, 3) ∧ 56 + 3 = 59 := ⟨by decide +kernel, rfl⟩
theorem dX7_kinds_59 : decode cX7_kinds 59 = .ok (.getfield 171, 3) ∧ 59 + 3 = 62 := ⟨by decide +kernel, rfl⟩
theorem dX7_kinds_62 : decode cX7_kinds 62 = .ok (.astore 6, 2) ∧ 62 + 2 = 64 := ⟨by decide +kernel, rfl⟩
theorem dX7_kinds_64 : decode cX7_kinds 64 = .ok (.iload_n 3, 1) ∧ 64 + 1 = 65 := ⟨by decide +kernel, rfl⟩
theorem dX7_kinds_65 : decode cX7_kinds 65 = .ok (.ifCond .ne 8, 3) ∧ 65 + 3 = 68 ∧ ((65 : Nat) : Int) + (8) = ((73 : Nat) : Int) := ⟨by decide +kernel, rfl, by decide⟩
theorem dX7_kinds_68 : decode cX7_kinds 68 = .ok (.bipush 6, 2) ∧ 68 + 2 = 70 := ⟨by decide +kernel, rfl⟩
theorem dX7_kinds_70 : decode cX7_kinds 70 = .ok (.goto 5, 3) ∧ ((70 : Nat) : Int) + (5) = ((75 : Nat) : Int) := ⟨by decide +kernel, by decide⟩
theorem dX7_kinds_73 : decode cX7_kinds 73 = .ok (.bipush 10, 2) ∧ 73 + 2 = 75 := ⟨by decide +kernel, rfl⟩
theorem dX7_kinds_75 : decode cX7_kinds 75 = .ok (.istore 7, 2) ∧ 75 + 2 = 77 := ⟨by decide +kernel, rfl⟩
theorem dX7_kinds_77 : decode cX7_kinds 77 = .ok (.aload_n 0, 1) ∧ 77 + 1 = 78 := ⟨by decide +kernel, rfl⟩
theorem dX7_kinds_78 : decode cX7_kinds 78 = .ok (.getfield 16, 3) ∧ 78 + 3 = 81 := ⟨by decide +kernel, rfl⟩
theorem dX7_kinds_81 : decode cX7_kinds 81 = .ok (.aload 4, 2) ∧ 81 + 2 = 83 := ⟨by decide +kernel, rfl⟩
theorem dX7_kinds_83 : decode cX7_kinds 83 = .ok (.iload_n 2, 1) ∧ 83 + 1 = 84 := ⟨by decide +kernel, rfl⟩
theorem dX7_kinds_84 : decode cX7_kinds 84 = .ok (.invokevirtual 260, 3) := by decide +kernel
theorem dX7_kinds_87 : decode cX7_kinds 87 = .ok (.iconst (-1), 1) ∧ 87 + 1 = 88 := ⟨by decide +kernel, rfl⟩
theorem dX7_kinds_88 : decode cX7_kinds 88 = .ok (.if_icmp .ne 7, 3) ∧ 88 + 3 = 91 ∧ ((88 : Nat) : Int) + (7) = ((95 : Nat) : Int) := ⟨by decide +kernel, rfl, by decide⟩
theorem dX7_kinds_91 : decode cX7_kinds 91 = .ok (.iconst 1, 1) ∧ 91 + 1 = 92 := ⟨by decide +kernel, rfl⟩
theorem dX7_kinds_92 : decode cX7_kinds 92 = .ok (.goto 4, 3) ∧ ((92 : Nat) : Int) + (4) = ((96 : Nat) : Int) := ⟨by decide +kernel, by decide⟩
theorem dX7_kinds_95 : decode cX7_kinds 95 = .ok (.iconst 0, 1) ∧ 95 + 1 = 96 := ⟨by decide +kernel, rfl⟩
theorem dX7_kinds_96 : decode cX7_kinds 96 = .ok (.istore 8, 2) ∧ 96 + 2 = 98 := ⟨by decide +kernel, rfl⟩
theorem dX7_kinds_98 : decode cX7_kinds 98 = .ok (.iconst 0, 1) ∧ 98 + 1 = 99 := ⟨by decide +kernel, rfl⟩
theorem dX7_kinds_99 : decode cX7_kinds 99 = .ok (.istore 9, 2) ∧ 99 + 2 = 101 := ⟨by decide +kernel, rfl⟩
theorem dX7_kinds_101 : decode cX7_kinds 101 = .ok (.iconst 0, 1) ∧ 101 + 1 = 102 := ⟨by decide +kernel, rfl⟩
theorem dX7_kinds_102 : decode cX7_kinds 102 = .ok (.istore 10, 2) ∧ 102 + 2 = 104 := ⟨by decide +kernel, rfl⟩
theorem dX7_kinds_104 : decode cX7_kinds 104 = .ok (.iload 10, 2) ∧ 104 + 2 = 106 := ⟨by decide +kernel, rfl⟩
theorem dX7_kinds_106 : decode cX7_kinds 106 = .ok (.iload 7, 2) ∧ 106 + 2 = 108 := ⟨by decide +kernel, rfl⟩
theorem dX7_kinds_108 : decode cX7_kinds 108 = .ok (.if_icmp .ge 48, 3) ∧ 108 + 3 = 111 ∧ ((108 : Nat) : Int) + (48) = ((156 : Nat) : Int) := ⟨by decide +kernel, rfl, by decide⟩
theorem dX7_kinds_111 : decode cX7_kinds 111 = .ok (.aload 6, 2) ∧ 111 + 2 = 113 := ⟨by decide +kernel, rfl⟩
theorem dX7_kinds_113 : decode cX7_kinds 113 = .ok (.iload_n 2, 1) ∧ 113 + 1 = 114 := ⟨by decide +kernel, rfl⟩
theorem dX7_kinds_114 : decode cX7_kinds 114 = .ok (.iload 10, 2) ∧ 114 + 2 = 116 := ⟨by decide +kernel, rfl⟩
theorem dX7_kinds_116 : decode cX7_kinds 116 = .ok (.invokestatic 164, 3) := by decide +kernel
theorem dX7_kinds_119 : decode cX7_kinds 119 = .ok (.iload 8, 2) ∧ 119 + 2 = 121 := ⟨by decide +kernel, rfl⟩
theorem dX7_kinds_121 : decode cX7_kinds 121 = .ok (.ifCond .eq 29, 3) ∧ 121 + 3 = 124 ∧ ((121 : Nat) : Int) + (29) = ((150 : Nat) : Int) := ⟨by decide +kernel, rfl, by decide⟩
theorem dX7_kinds_124 : decode cX7_kinds 124 = .ok (.aload 4, 2) ∧ 124 + 2 = 126 := ⟨by decide +kernel, rfl⟩
theorem dX7_kinds_126 : decode cX7_kinds 126 = .ok (.iload_n 2, 1) ∧ 126 + 1 = 127 := ⟨by decide +kernel, rfl⟩
theorem dX7_kinds_127 : decode cX7_kinds 127 = .ok (.aload_n 0, 1) ∧ 127 + 1 = 128 := ⟨by decide +kernel, rfl⟩
theorem dX7_kinds_128 : decode cX7_kinds 128 = .ok (.getfield 16, 3) ∧ 128 + 3 = 131 := ⟨by decide +kernel, rfl⟩
theorem dX7_kinds_131 : decode cX7_kinds 131 = .ok (.iload_n 2, 1) ∧ 131 + 1 = 132 := ⟨by decide +kernel, rfl⟩
theorem dX7_kinds_132 : decode cX7_kinds 132 = .ok (.invokevirtual 183, 3) := by decide +kernel
theorem dX7_kinds_135 : decode cX7_kinds 135 = .ok (.invokevirtual 267, 3) := by decide +kernel
theorem dX7_kinds_138 : decode cX7_kinds 138 = .ok (.ifCond .eq 12, 3) ∧ 138 + 3 = 141 ∧ ((138 : Nat) : Int) + (12) = ((150 : Nat) : Int) := ⟨by decide +kernel, rfl, by decide⟩
theorem dX7_kinds_141 : decode cX7_kinds 141 = .ok (.iload 9, 2) ∧ 141 + 2 = 143 := ⟨by decide +kernel, rfl⟩
theorem dX7_kinds_143 : decode cX7_kinds 143 = .ok (.iconst 1, 1) ∧ 143 + 1 = 144 := ⟨by decide +kernel, rfl⟩
theorem dX7_kinds_144 : decode cX7_kinds 144 = .ok (.iload 10, 2) ∧ 144 + 2 = 146 := ⟨by decide +kernel, rfl⟩
theorem dX7_kinds_146 : decode cX7_kinds 146 = .ok (.ishl, 1) ∧ 146 + 1 = 147 := ⟨by decide +kernel, rfl⟩
theorem dX7_kinds_147 : decode cX7_kinds 147 = .ok (.ior, 1) ∧ 147 + 1 = 148 := ⟨by decide +kernel, rfl⟩
theorem dX7_kinds_148 : decode cX7_kinds 148 = .ok (.istore 9, 2) ∧ 148 + 2 = 150 := ⟨by decide +kernel, rfl⟩
theorem dX7_kinds_150 : decode cX7_kinds 150 = .ok (.iinc 10 1, 3) ∧ 150 + 3 = 153 := ⟨by decide +kernel, rfl⟩
theorem dX7_kinds_153 : decode cX7_kinds 153 = .ok (.goto (-49), 3) ∧ ((153 : Nat) : Int) + (-49) = ((104 : Nat) : Int) := ⟨by decide +kernel, by decide⟩
theorem dX7_kinds_156 : decode cX7_kinds 156 = .ok (.iload 9, 2) ∧ 156 + 2 = 158 := ⟨by decide +kernel, rfl⟩
theorem dX7_kinds_158 : decode cX7_kinds 158 = .ok (.ireturn, 1) := by decide +kernel
def B_X7_kinds_27 (fu : Nat) (o : Nat) (S : Hp) (x5 : Int32) : Option (Int32 × Hp) :=
  some (x5, S)
set_option maxRecDepth 100000 in
set_option maxHeartbeats 4000000 in
theorem w_X7_kinds_27 {E : Cx} {l : Launch} {res : Int32 × Hp} {ad : Nat → Nat} {fu : Nat} {o : Nat} {S : Hp} {x5 : Int32} (K : Kx E cX7_kinds RX7 (rmd 6 0 0)) (X : Bx E l yX7_kinds 11 (some .int) 0 0 ad (QI res)) (h : B_X7_kinds_27 fu o S x5 = some res) : J E 0 0 27 [(5, vI x5)] [] S ad := by
  refine j_iload K dX7_kinds_27 0 rfl ?_
  exact j_iret K X dX7_kinds_29 h
def B_X7_kinds_150 (k104 : Hp → Int32 → Int32 → Option (Int32 × Hp)) (fu : Nat) (o : Nat) (S : Hp) (x2 : Int32) (x4 : Option Nat) (x6 : Option Nat) (x7 : Int32) (x8 : Int32) (x9 : Int32) (x10 : Int32) : Option (Int32 × Hp) :=
  k104 S x9 (x10 + (1 : Int32))
set_option maxRecDepth 100000 in
set_option maxHeartbeats 4000000 in
theorem w_X7_kinds_150 {E : Cx} {l : Launch} {res : Int32 × Hp} {ad : Nat → Nat} {k104 : Hp → Int32 → Int32 → Option (Int32 × Hp)} {fu : Nat} {o : Nat} {S : Hp} {x2 : Int32} {x4 : Option Nat} {x6 : Option Nat} {x7 : Int32} {x8 : Int32} {x9 : Int32} {x10 : Int32} (K : Kx E cX7_kinds RX7 (rmd 6 0 0)) (X : Bx E l yX7_kinds 11 (some .int) 0 0 ad (QI res)) (hk104 : ∀ (S : Hp) (x9 : Int32) (x10 : Int32), k104 S x9 x10 = some res → J E 0 0 104 [(0, vR (some o)), (2, vI x2), (4, vR x4), (6, vR x6), (7, vI x7), (8, vI x8), (9, vI x9), (10, vI x10)] [] S ad) (h : B_X7_kinds_150 k104 fu o S x2 x4 x6 x7 x8 x9 x10 = some res) : J E 0 0 150 [(0, vR (some o)), (2, vI x2), (4, vR x4), (6, vR x6), (7, vI x7), (8, vI x8), (9, vI x9), (10, vI x10)] [] S ad := by
  refine j_iinc (q := 7) (v := (x10 + (1 : Int32))) (lv' := [(10, vI (x10 + (1 : Int32))), (0, vR (some o)), (2, vI x2), (4, vR x4), (6, vR x6), (7, vI x7), (8, vI x8), (9, vI x9)]) K dX7_kinds_150 rfl rfl X.2.2.1 (by decide) rfl ?_
  refine j_goto K dX7_kinds_153 ?_
  exact j_sub [1, 2, 3, 4, 5, 6, 7, 0] rfl (hk104 _ _ _ h)
def L_X7_kinds_104 (k104 : Hp → Int32 → Int32 → Option (Int32 × Hp)) (fu : Nat) (o : Nat) (x2 : Int32) (x4 : Option Nat) (x6 : Option Nat) (x7 : Int32) (x8 : Int32) (S : Hp) (x9 : Int32) (x10 : Int32) : Option (Int32 × Hp) :=
  if x7 ≤ x10 then
    some (x9, S)
  else
    (F_X7_store S x6 x2 x10).bind fun S116 =>
    if x8 = 0 then
      B_X7_kinds_150 k104 fu o S116 x2 x4 x6 x7 x8 x9 x10
    else
      (gR S116 (some o) 5 1).bind fun v128 =>
      (ob S116 0 v128).bind fun o132 =>
      b2 (F_X0_beats fu S116 o132 x2) fun v132 S132 =>
      (ob S132 3 x4).bind fun o135 =>
      b2 (F_X4_agrees S132 o135 x2 v132) fun v135 S135 =>
      if v135 = 0 then
        B_X7_kinds_150 k104 fu o S135 x2 (some o135) x6 x7 x8 x9 x10
      else
        B_X7_kinds_150 k104 fu o S135 x2 (some o135) x6 x7 x8 (x9 ||| ((1 : Int32) <<< (x10 &&& 31))) x10
set_option maxRecDepth 100000 in
set_option maxHeartbeats 4000000 in
theorem wl_X7_kinds_104 {E : Cx} {l : Launch} {res : Int32 × Hp} {ad : Nat → Nat} {k104 : Hp → Int32 → Int32 → Option (Int32 × Hp)} {fu : Nat} {o : Nat} {S : Hp} {x2 : Int32} {x4 : Option Nat} {x6 : Option Nat} {x7 : Int32} {x8 : Int32} {x9 : Int32} {x10 : Int32} (K : Kx E cX7_kinds RX7 (rmd 6 0 0)) (X : Bx E l yX7_kinds 11 (some .int) 0 0 ad (QI res)) (hk104 : ∀ (S : Hp) (x9 : Int32) (x10 : Int32), k104 S x9 x10 = some res → J E 0 0 104 [(0, vR (some o)), (2, vI x2), (4, vR x4), (6, vR x6), (7, vI x7), (8, vI x8), (9, vI x9), (10, vI x10)] [] S ad) (h : L_X7_kinds_104 k104 fu o x2 x4 x6 x7 x8 S x9 x10 = some res) : J E 0 0 104 [(0, vR (some o)), (2, vI x2), (4, vR x4), (6, vR x6), (7, vI x7), (8, vI x8), (9, vI x9), (10, vI x10)] [] S ad := by
  refine j_iload K dX7_kinds_104 7 rfl ?_
  refine j_iload K dX7_kinds_106 4 rfl ?_
  refine j_icmp_ge K dX7_kinds_108 (fun c108 => ?_) (fun c108 => ?_)
  · replace h := it c108 h
    refine j_iload K dX7_kinds_156 6 rfl ?_
    exact j_iret K X dX7_kinds_158 h
  · replace h := ie c108 h
    refine j_aload K dX7_kinds_111 3 rfl ?_
    refine j_iload_n K dX7_kinds_113 rfl 1 rfl ?_
    refine j_iload K dX7_kinds_114 7 rfl ?_
    obtain ⟨S116, e116, h⟩ := bd h
    refine j_cV (st := []) K (r_S (vs := [vR x6, vI x2, vI x10]) (n := 3) K (c_X7_store e116) dX7_kinds_116 z500 z216 z1 z217 ⟨zd_X7_store, rfl, rfl, rfl, ⟨Nat.le_of_ble_eq_true rfl, Nat.le_of_ble_eq_true rfl⟩, Nat.le_of_ble_eq_true rfl, Nat.le_of_ble_eq_true rfl, Nat.le_of_ble_eq_true rfl⟩) rfl ?_
    refine j_iload K dX7_kinds_119 5 rfl ?_
    refine j_if_eq K dX7_kinds_121 (fun c121 => ?_) (fun c121 => ?_)
    · replace h := it c121 h
      exact w_X7_kinds_150 K X hk104 h
    · replace h := ie c121 h
      refine j_aload K dX7_kinds_124 2 rfl ?_
      refine j_iload_n K dX7_kinds_126 rfl 1 rfl ?_
      refine j_aload_n K dX7_kinds_127 rfl 0 rfl ?_
      obtain ⟨v128, e128, h⟩ := bd h
      refine fgX7_16 K dX7_kinds_128 e128 ?_
      refine j_iload_n K dX7_kinds_131 rfl 1 rfl ?_
      obtain ⟨o132, ew132, hz132⟩ := bd h
      obtain ⟨er132, ho132⟩ := ob_some ew132
      subst er132
      have h := hz132
      obtain ⟨v132, S132, e132, h⟩ := bd2 h
      refine j_cI (st := [vI x2, vR x4]) K (r_V (vs := [vI x2]) (n := 1) (o := o132) K (c_X0_beats e132) ho132 (by decide) rfl dX7_kinds_132 z517 z518 z519 z2 z520 ⟨zd_X0_beats, rfl, rfl, rfl, ⟨Nat.le_of_ble_eq_true rfl, Nat.le_of_ble_eq_true rfl⟩, Nat.le_of_ble_eq_true rfl, Nat.le_of_ble_eq_true rfl, Nat.le_of_ble_eq_true rfl⟩) rfl ?_
      obtain ⟨o135, ew135, hz135⟩ := bd h
      obtain ⟨er135, ho135⟩ := ob_some ew135
      subst er135
      have h := hz135
      obtain ⟨v135, S135, e135, h⟩ := bd2 h
      refine j_cI (st := []) K (r_V (vs := [vI x2, vI v132]) (n := 2) (o := o135) K (c_X4_agrees e135) ho135 (by decide) rfl dX7_kinds_135 z711 z691 z692 z5 z693 ⟨zd_X4_agrees, rfl, rfl, rfl, ⟨Nat.le_of_ble_eq_true rfl, Nat.le_of_ble_eq_true rfl⟩, Nat.le_of_ble_eq_true rfl, Nat.le_of_ble_eq_true rfl, Nat.le_of_ble_eq_true rfl⟩) rfl ?_
      refine j_if_eq K dX7_kinds_138 (fun c138 => ?_) (fun c138 => ?_)
      · replace h := it c138 h
        exact w_X7_kinds_150 K X hk104 h
      · replace h := ie c138 h
        refine j_iload K dX7_kinds_141 6 rfl ?_
        refine j_iconst (v := (1 : Int32)) K dX7_kinds_143 (by decide) ?_
        refine j_iload K dX7_kinds_144 7 rfl ?_
        refine j_ishl K dX7_kinds_146 ?_
        refine j_ior K dX7_kinds_147 ?_
        refine j_istore (lv' := [(9, vI (x9 ||| ((1 : Int32) <<< (x10 &&& 31)))), (0, vR (some o)), (2, vI x2), (4, vR (some o135)), (6, vR x6), (7, vI x7), (8, vI x8), (10, vI x10)]) K dX7_kinds_148 X.2.2.1 (by decide) rfl ?_
        exact j_sub [1, 2, 3, 4, 5, 6, 0, 7] rfl (w_X7_kinds_150 K X hk104 h)
def B_X7_kinds_104 (fu : Nat) (o : Nat) (x2 : Int32) (x4 : Option Nat) (x6 : Option Nat) (x7 : Int32) (x8 : Int32) : Nat → Hp → Int32 → Int32 → Option (Int32 × Hp)
  | 0 => fun _ _ _ => none
  | n + 1 => L_X7_kinds_104 (B_X7_kinds_104 fu o x2 x4 x6 x7 x8 n) fu o x2 x4 x6 x7 x8
theorem w_X7_kinds_104 {E : Cx} {l : Launch} {res : Int32 × Hp} {ad : Nat → Nat} {fu : Nat} {o : Nat} {x2 : Int32} {x4 : Option Nat} {x6 : Option Nat} {x7 : Int32} {x8 : Int32} (K : Kx E cX7_kinds RX7 (rmd 6 0 0)) (X : Bx E l yX7_kinds 11 (some .int) 0 0 ad (QI res)) : ∀ (n : Nat) (S : Hp) (x9 : Int32) (x10 : Int32), B_X7_kinds_104 fu o x2 x4 x6 x7 x8 n S x9 x10 = some res → J E 0 0 104 [(0, vR (some o)), (2, vI x2), (4, vR x4), (6, vR x6), (7, vI x7), (8, vI x8), (9, vI x9), (10, vI x10)] [] S ad := by
  intro n
  induction n with
  | zero =>
    intro S x9 x10 h
    cases h
  | succ n ih =>
    intro S x9 x10 h
    exact wl_X7_kinds_104 K X ih h
def B_X7_kinds_96 (fu : Nat) (o : Nat) (S : Hp) (x2 : Int32) (x4 : Option Nat) (x6 : Option Nat) (x7 : Int32) (s0 : Int32) : Option (Int32 × Hp) :=
  B_X7_kinds_104 fu o x2 x4 x6 x7 s0 fu S (0 : Int32) (0 : Int32)
set_option maxRecDepth 100000 in
set_option maxHeartbeats 4000000 in
theorem w_X7_kinds_96 {E : Cx} {l : Launch} {res : Int32 × Hp} {ad : Nat → Nat} {fu : Nat} {o : Nat} {S : Hp} {x2 : Int32} {x4 : Option Nat} {x6 : Option Nat} {x7 : Int32} {s0 : Int32} (K : Kx E cX7_kinds RX7 (rmd 6 0 0)) (X : Bx E l yX7_kinds 11 (some .int) 0 0 ad (QI res)) (h : B_X7_kinds_96 fu o S x2 x4 x6 x7 s0 = some res) : J E 0 0 96 [(0, vR (some o)), (2, vI x2), (4, vR x4), (6, vR x6), (7, vI x7)] [vI s0] S ad := by
  refine j_istore (lv' := [(8, vI s0), (0, vR (some o)), (2, vI x2), (4, vR x4), (6, vR x6), (7, vI x7)]) K dX7_kinds_96 X.2.2.1 (by decide) rfl ?_
  refine j_iconst (v := (0 : Int32)) K dX7_kinds_98 (by decide) ?_
  refine j_istore (lv' := [(9, vI (0 : Int32)), (8, vI s0), (0, vR (some o)), (2, vI x2), (4, vR x4), (6, vR x6), (7, vI x7)]) K dX7_kinds_99 X.2.2.1 (by decide) rfl ?_
  refine j_iconst (v := (0 : Int32)) K dX7_kinds_101 (by decide) ?_
  refine j_istore (lv' := [(10, vI (0 : Int32)), (9, vI (0 : Int32)), (8, vI s0), (0, vR (some o)), (2, vI x2), (4, vR x4), (6, vR x6), (7, vI x7)]) K dX7_kinds_102 X.2.2.1 (by decide) rfl ?_
  exact j_sub [3, 4, 5, 6, 7, 2, 1, 0] rfl (w_X7_kinds_104 K X _ _ _ _ h)
def B_X7_kinds_75 (fu : Nat) (o : Nat) (S : Hp) (x2 : Int32) (x4 : Option Nat) (x6 : Option Nat) (s0 : Int32) : Option (Int32 × Hp) :=
  (gR S (some o) 5 1).bind fun v78 =>
  (ob S 0 v78).bind fun o84 =>
  b2 (F_X0_firstOtherwise fu S o84 x4 x2) fun v84 S84 =>
  if v84 = (-1 : Int32) then
    B_X7_kinds_96 fu o S84 x2 x4 x6 s0 (1 : Int32)
  else
    B_X7_kinds_96 fu o S84 x2 x4 x6 s0 (0 : Int32)
set_option maxRecDepth 100000 in
set_option maxHeartbeats 4000000 in
theorem w_X7_kinds_75 {E : Cx} {l : Launch} {res : Int32 × Hp} {ad : Nat → Nat} {fu : Nat} {o : Nat} {S : Hp} {x2 : Int32} {x4 : Option Nat} {x6 : Option Nat} {s0 : Int32} (K : Kx E cX7_kinds RX7 (rmd 6 0 0)) (X : Bx E l yX7_kinds 11 (some .int) 0 0 ad (QI res)) (h : B_X7_kinds_75 fu o S x2 x4 x6 s0 = some res) : J E 0 0 75 [(0, vR (some o)), (2, vI x2), (4, vR x4), (6, vR x6)] [vI s0] S ad := by
  refine j_istore (lv' := [(7, vI s0), (0, vR (some o)), (2, vI x2), (4, vR x4), (6, vR x6)]) K dX7_kinds_75 X.2.2.1 (by decide) rfl ?_
  refine j_aload_n K dX7_kinds_77 rfl 1 rfl ?_
  obtain ⟨v78, e78, h⟩ := bd h
  refine fgX7_16 K dX7_kinds_78 e78 ?_
  refine j_aload K dX7_kinds_81 3 rfl ?_
  refine j_iload_n K dX7_kinds_83 rfl 2 rfl ?_
  obtain ⟨o84, ew84, hz84⟩ := bd h
  obtain ⟨er84, ho84⟩ := ob_some ew84
  subst er84
  have h := hz84
  obtain ⟨v84, S84, e84, h⟩ := bd2 h
  refine j_cI (st := []) K (r_V (vs := [vR x4, vI x2]) (n := 2) (o := o84) K (c_X0_firstOtherwise e84) ho84 (by decide) rfl dX7_kinds_84 z686 z687 z688 z2 z689 ⟨zd_X0_firstOtherwise, rfl, rfl, rfl, ⟨Nat.le_of_ble_eq_true rfl, Nat.le_of_ble_eq_true rfl⟩, Nat.le_of_ble_eq_true rfl, Nat.le_of_ble_eq_true rfl, Nat.le_of_ble_eq_true rfl⟩) rfl ?_
  refine j_iconst (v := (-1 : Int32)) K dX7_kinds_87 (by decide) ?_
  refine j_icmp_ne K dX7_kinds_88 (fun c88 => ?_) (fun c88 => ?_)
  · replace h := ie c88 h
    refine j_iconst (v := (0 : Int32)) K dX7_kinds_95 (by decide) ?_
    exact j_sub [1, 2, 3, 4, 0] rfl (w_X7_kinds_96 K X h)
  · replace h := it c88 h
    refine j_iconst (v := (1 : Int32)) K dX7_kinds_91 (by decide) ?_
    refine j_goto K dX7_kinds_92 ?_
    exact j_sub [1, 2, 3, 4, 0] rfl (w_X7_kinds_96 K X h)
def B_X7_kinds_62 (fu : Nat) (o : Nat) (S : Hp) (x2 : Int32) (x3 : Int32) (x4 : Option Nat) (s0 : Option Nat) : Option (Int32 × Hp) :=
  if x3 = 0 then
    B_X7_kinds_75 fu o S x2 x4 s0 (6 : Int32)
  else
    B_X7_kinds_75 fu o S x2 x4 s0 (10 : Int32)
set_option maxRecDepth 100000 in
set_option maxHeartbeats 4000000 in
theorem w_X7_kinds_62 {E : Cx} {l : Launch} {res : Int32 × Hp} {ad : Nat → Nat} {fu : Nat} {o : Nat} {S : Hp} {x2 : Int32} {x3 : Int32} {x4 : Option Nat} {s0 : Option Nat} (K : Kx E cX7_kinds RX7 (rmd 6 0 0)) (X : Bx E l yX7_kinds 11 (some .int) 0 0 ad (QI res)) (h : B_X7_kinds_62 fu o S x2 x3 x4 s0 = some res) : J E 0 0 62 [(0, vR (some o)), (2, vI x2), (3, vI x3), (4, vR x4)] [vR s0] S ad := by
  refine j_astore (lv' := [(6, vR s0), (0, vR (some o)), (2, vI x2), (3, vI x3), (4, vR x4)]) K dX7_kinds_62 X.2.2.1 (by decide) rfl ?_
  refine j_iload_n K dX7_kinds_64 rfl 3 rfl ?_
  refine j_if_ne K dX7_kinds_65 (fun c65 => ?_) (fun c65 => ?_)
  · replace h := ie c65 h
    refine j_bipush (v := (10 : Int32)) K dX7_kinds_73 (by decide) ?_
    exact j_sub [1, 2, 4, 0] rfl (w_X7_kinds_75 K X h)
  · replace h := it c65 h
    refine j_bipush (v := (6 : Int32)) K dX7_kinds_68 (by decide) ?_
    refine j_goto K dX7_kinds_70 ?_
    exact j_sub [1, 2, 4, 0] rfl (w_X7_kinds_75 K X h)
def F_X7_kinds (fu : Nat) (S : Hp) (o : Nat) (x1 : Int32) (x2 : Int32) (x3 : Int32) : Option (Int32 × Hp) :=
  (ob S 5 (some o)).bind fun _ =>
  b2 (F_X7_sheetAt S o x1) fun v2 S2 =>
  (ob S2 5 (some o)).bind fun _ =>
  b2 (F_X7_refusalToJudge_ S2 o v2 x2 x3) fun v12 S12 =>
  if v2 = none then
    B_X7_kinds_27 fu o S12 v12
  else
    if v12 = 0 then
      (gR S12 (some o) 5 1).bind fun v31 =>
      (gR S12 (some o) 5 0).bind fun v35 =>
      (ob S12 0 v31).bind fun o38 =>
      (F_X0_takeFrom fu S12 o38 v35).bind fun S38 =>
      if x3 = 0 then
        (gR S38 (some o) 5 1).bind fun v46 =>
        (gR S38 v46 0 1).bind fun v49 =>
        B_X7_kinds_62 fu o S38 x2 x3 v2 v49
      else
        (gR S38 (some o) 5 1).bind fun v56 =>
        (gR S38 v56 0 2).bind fun v59 =>
        B_X7_kinds_62 fu o S38 x2 x3 v2 v59
    else
      B_X7_kinds_27 fu o S12 v12
set_option maxRecDepth 100000 in
set_option maxHeartbeats 4000000 in
theorem w_X7_kinds {E : Cx} {l : Launch} {res : Int32 × Hp} {ad : Nat → Nat} {fu : Nat} {S : Hp} {o : Nat} {x1 : Int32} {x2 : Int32} {x3 : Int32} (K : Kx E cX7_kinds RX7 (rmd 6 0 0)) (X : Bx E l yX7_kinds 11 (some .int) 0 0 ad (QI res)) (h : F_X7_kinds fu S o x1 x2 x3 = some res) : J E 0 0 0 [(0, vR (some o)), (1, vI x1), (2, vI x2), (3, vI x3)] [] S ad := by
  refine j_aload_n K dX7_kinds_0 rfl 0 rfl ?_
  refine j_iload_n K dX7_kinds_1 rfl 1 rfl ?_
  obtain ⟨w2, ew2, h⟩ := bd h
  have ho2 := obS ew2
  obtain ⟨v2, S2, e2, h⟩ := bd2 h
  refine j_cR (st := []) K (r_V (vs := [vI x1]) (n := 1) (o := o) K (c_X7_sheetAt e2) ho2 (by decide) rfl dX7_kinds_2 z674 z676 zs21 z1 z677 ⟨zd_X7_sheetAt, rfl, rfl, rfl, ⟨Nat.le_of_ble_eq_true rfl, Nat.le_of_ble_eq_true rfl⟩, Nat.le_of_ble_eq_true rfl, Nat.le_of_ble_eq_true rfl, Nat.le_of_ble_eq_true rfl⟩) rfl ?_
  refine j_astore (lv' := [(4, vR v2), (0, vR (some o)), (1, vI x1), (2, vI x2), (3, vI x3)]) K dX7_kinds_5 X.2.2.1 (by decide) rfl ?_
  refine j_aload_n K dX7_kinds_7 rfl 1 rfl ?_
  refine j_aload K dX7_kinds_8 0 rfl ?_
  refine j_iload_n K dX7_kinds_10 rfl 3 rfl ?_
  refine j_iload_n K dX7_kinds_11 rfl 4 rfl ?_
  obtain ⟨w12, ew12, h⟩ := bd h
  have ho12 := obS ew12
  obtain ⟨v12, S12, e12, h⟩ := bd2 h
  refine j_cI (st := []) K (r_V (vs := [vR v2, vI x2, vI x3]) (n := 3) (o := o) K (c_X7_refusalToJudge_ e12) ho12 (by decide) rfl dX7_kinds_12 z707 z709 zs23 z1 z710 ⟨zd_X7_refusalToJudge_, rfl, rfl, rfl, ⟨Nat.le_of_ble_eq_true rfl, Nat.le_of_ble_eq_true rfl⟩, Nat.le_of_ble_eq_true rfl, Nat.le_of_ble_eq_true rfl, Nat.le_of_ble_eq_true rfl⟩) rfl ?_
  refine j_istore (lv' := [(5, vI v12), (4, vR v2), (0, vR (some o)), (1, vI x1), (2, vI x2), (3, vI x3)]) K dX7_kinds_15 X.2.2.1 (by decide) rfl ?_
  refine j_aload K dX7_kinds_17 1 rfl ?_
  refine j_ifnull K dX7_kinds_19 (fun c19 => ?_) (fun c19 => ?_)
  · replace h := it c19 h
    exact j_sub [0] rfl (w_X7_kinds_27 K X h)
  · replace h := ie c19 h
    refine j_iload K dX7_kinds_22 0 rfl ?_
    refine j_if_eq K dX7_kinds_24 (fun c24 => ?_) (fun c24 => ?_)
    · replace h := it c24 h
      refine j_aload_n K dX7_kinds_30 rfl 2 rfl ?_
      obtain ⟨v31, e31, h⟩ := bd h
      refine fgX7_16 K dX7_kinds_31 e31 ?_
      refine j_aload_n K dX7_kinds_34 rfl 2 rfl ?_
      obtain ⟨v35, e35, h⟩ := bd h
      refine fgX7_10 K dX7_kinds_35 e35 ?_
      obtain ⟨o38, ew38, hz38⟩ := bd h
      obtain ⟨er38, ho38⟩ := ob_some ew38
      subst er38
      have h := hz38
      obtain ⟨S38, e38, h⟩ := bd h
      refine j_cV (st := []) K (r_V (vs := [vR v35]) (n := 1) (o := o38) K (c_X0_takeFrom e38) ho38 (by decide) rfl dX7_kinds_38 z622 z623 z624 z2 z625 ⟨zd_X0_takeFrom, rfl, rfl, rfl, ⟨Nat.le_of_ble_eq_true rfl, Nat.le_of_ble_eq_true rfl⟩, Nat.le_of_ble_eq_true rfl, Nat.le_of_ble_eq_true rfl, Nat.le_of_ble_eq_true rfl⟩) rfl ?_
      refine j_iload_n K dX7_kinds_41 rfl 5 rfl ?_
      refine j_if_ne K dX7_kinds_42 (fun c42 => ?_) (fun c42 => ?_)
      · replace h := ie c42 h
        refine j_aload_n K dX7_kinds_55 rfl 2 rfl ?_
        obtain ⟨v56, e56, h⟩ := bd h
        refine fgX7_16 K dX7_kinds_56 e56 ?_
        obtain ⟨v59, e59, h⟩ := bd h
        refine fgX7_171 K dX7_kinds_59 e59 ?_
        exact j_sub [2, 4, 5, 1] rfl (w_X7_kinds_62 K X h)
      · replace h := it c42 h
        refine j_aload_n K dX7_kinds_45 rfl 2 rfl ?_
        obtain ⟨v46, e46, h⟩ := bd h
        refine fgX7_16 K dX7_kinds_46 e46 ?_
        obtain ⟨v49, e49, h⟩ := bd h
        refine fgX7_168 K dX7_kinds_49 e49 ?_
        refine j_goto K dX7_kinds_52 ?_
        exact j_sub [2, 4, 5, 1] rfl (w_X7_kinds_62 K X h)
    · replace h := ie c24 h
      exact j_sub [0] rfl (w_X7_kinds_27 K X h)
theorem c_X7_kinds {l : Launch} {fu : Nat} {S : Hp} {o : Nat} {x1 : Int32} {x2 : Int32} {x3 : Int32} {res : Int32 × Hp} (h : F_X7_kinds fu S o x1 x2 x3 = some res) : Ct l yX7_kinds cX7_kinds 11 (some .int) (rmd 6 0 0) 0 0 [vR (some o), vI x1, vI x2, vI x3] S (QI res) :=
  z_entry (by decide +kernel) (Nat.le_of_ble_eq_true rfl) (fun E ad K X => w_X7_kinds K X h)

theorem dX7_prides_0 : decode cX7_prides 0 = .ok (.aload_n 0, 1) ∧ 0 + 1 = 1 := ⟨by decide +kernel, rfl⟩
theorem dX7_prides_1 : decode cX7_prides 1 = .ok (.iload_n 1, 1) ∧ 1 + 1 = 2 := ⟨by decide +kernel, rfl⟩
theorem dX7_prides_2 : decode cX7_prides 2 = .ok (.invokevirtual 252, 3) := by decide +kernel
theorem dX7_prides_5 : decode cX7_prides 5 = .ok (.astore 4, 2) ∧ 5 + 2 = 7 := ⟨by decide +kernel, rfl⟩
theorem dX7_prides_7 : decode cX7_prides 7 = .ok (.aload_n 0, 1) ∧ 7 + 1 = 8 := ⟨by decide +kernel, rfl⟩
theorem dX7_prides_8 : decode cX7_prides 8 = .ok (.aload 4, 2) ∧ 8 + 2 = 10 := ⟨by decide +kernel, rfl⟩
theorem dX7_prides_10 : decode cX7_prides 10 = .ok (.iload_n 2, 1) ∧ 10 + 1 = 11 := ⟨by decide +kernel, rfl⟩
theorem dX7_prides_11 : decode cX7_prides 11 = .ok (.iload_n 3, 1) ∧ 11 + 1 = 12 := ⟨by decide +kernel, rfl⟩
theorem dX7_prides_12 : decode cX7_prides 12 = .ok (.invokevirtual 264, 3) := by decide +kernel
theorem dX7_prides_15 : decode cX7_prides 15 = .ok (.istore 5, 2) ∧ 15 + 2 = 17 := ⟨by decide +kernel, rfl⟩
theorem dX7_prides_17 : decode cX7_prides 17 = .ok (.aload 4, 2) ∧ 17 + 2 = 19 := ⟨by decide +kernel, rfl⟩
theorem dX7_prides_19 : decode cX7_prides 19 = .ok (.ifnull 8, 3) ∧ 19 + 3 = 22 ∧ ((19 : Nat) : Int) + (8) = ((27 : Nat) : Int) := ⟨by decide +kernel, rfl, by decide⟩
theorem dX7_prides_22 : decode cX7_prides 22 = .ok (.iload 5, 2) ∧ 22 + 2 = 24 := ⟨by decide +kernel, rfl⟩
theorem dX7_prides_24 : decode cX7_prides 24 = .ok (.ifCond .eq 6, 3) ∧ 24 + 3 = 27 ∧ ((24 : Nat) : Int) + (6) = ((30 : Nat) : Int) := ⟨by decide +kernel, rfl, by decide⟩
theorem dX7_prides_27 : decode cX7_prides 27 = .ok (.iload 5, 2) ∧ 27 + 2 = 29 := ⟨by decide +kernel, rfl⟩
theorem dX7_prides_29 : decode cX7_prides 29 = .ok (.ireturn, 1) := by decide +kernel
theorem dX7_prides_30 : decode cX7_prides 30 = .ok (.aload_n 0, 1) ∧ 30 + 1 = 31 := ⟨by decide +kernel, rfl⟩
theorem dX7_prides_31 : decode cX7_prides 31 = .ok (.getfield 16, 3) ∧ 31 + 3 = 34 := ⟨by decide +kernel, rfl⟩
theorem dX7_prides_34 : decode cX7_prides 34 = .ok (.aload_n 0, 1) ∧ 34 + 1 = 35 := ⟨by decide +kernel, rfl⟩
theorem dX7_prides_35 : decode cX7_prides 35 = .ok (.getfield 10, 3) ∧ 35 + 3 = 38 := ⟨by decide +kernel, rfl⟩
theorem dX7_prides_38 : decode cX7_prides 38 = .ok (.invokevirtual 230, 3) := by decide +kernel
theorem dX7_prides_41 : decode cX7_prides 41 = .ok (.aload_n 0, 1) ∧ 41 + 1 = 42 := ⟨by decide +kernel, rfl⟩
theorem dX7_prides_42 : decode cX7_prides 42 = .ok (.getfield 16, 3) ∧ 42 + 3 = 45 := ⟨by decide +kernel, rfl⟩
theorem dX7_prides_45 : decode cX7_prides 45 = .ok (.aload 4, 2) ∧ 45 + 2 = 47 := ⟨by decide +kernel, rfl⟩
theorem dX7_prides_47 : decode cX7_prides 47 = .ok (.iload_n 2, 1) ∧ 47 + 1 = 48 := ⟨by decide +kernel, rfl⟩
theorem dX7_prides_48 : decode cX7_prides 48 = .ok (.invokevirtual 260, 3) := by decide +kernel
theorem dX7_prides_51 : decode cX7_prides 51 = .ok (.iconst (-1), 1) ∧ 51 + 1 = 52 := ⟨by decide +kernel, rfl⟩
theorem dX7_prides_52 : decode cX7_prides 52 = .ok (.if_icmp .ne 7, 3) ∧ 52 + 3 = 55 ∧ ((52 : Nat) : Int) + (7) = ((59 : Nat) : Int) := ⟨by decide +kernel, rfl, by decide⟩
theorem dX7_prides_55 : decode cX7_prides 55 = .ok (.iconst 1, 1) ∧ 55 + 1 = 56 := ⟨by decide +kernel, rfl⟩
theorem dX7_prides_56 : decode cX7_prides 56 = .ok (.goto 4, 3) ∧ ((56 : Nat) : Int) + (4) = ((60 : Nat) : Int) := ⟨by decide +kernel, by decide⟩
theorem dX7_prides_59 : decode cX7_prides 59 = .ok (.iconst 0, 1) ∧ 59 + 1 = 60 := ⟨by decide +kernel, rfl⟩
theorem dX7_prides_60 : decode cX7_prides 60 = .ok (.istore 6, 2) ∧ 60 + 2 = 62 := ⟨by decide +kernel, rfl⟩
theorem dX7_prides_62 : decode cX7_prides 62 = .ok (.iconst 0, 1) ∧ 62 + 1 = 63 := ⟨by decide +kernel, rfl⟩
theorem dX7_prides_63 : decode cX7_prides 63 = .ok (.istore 7, 2) ∧ 63 + 2 = 65 := ⟨by decide +kernel, rfl⟩
theorem dX7_prides_65 : decode cX7_prides 65 = .ok (.iconst (-1), 1) ∧ 65 + 1 = 66 := ⟨by decide +kernel, rfl⟩
theorem dX7_prides_66 : decode cX7_prides 66 = .ok (.istore 8, 2) ∧ 66 + 2 = 68 := ⟨by decide +kernel, rfl⟩
theorem dX7_prides_68 : decode cX7_prides 68 = .ok (.iconst 0, 1) ∧ 68 + 1 = 69 := ⟨by decide +kernel, rfl⟩
theorem dX7_prides_69 : decode cX7_prides 69 = .ok (.istore 9, 2) ∧ 69 + 2 = 71 := ⟨by decide +kernel, rfl⟩
theorem dX7_prides_71 : decode cX7_prides 71 = .ok (.iload 9, 2) ∧ 71 + 2 = 73 := ⟨by decide +kernel, rfl⟩
theorem dX7_prides_73 : decode cX7_prides 73 = .ok (.bipush 100, 2) ∧ 73 + 2 = 75 := ⟨by decide +kernel, rfl⟩
theorem dX7_prides_75 : decode cX7_prides 75 = .ok (.if_icmp .ge 61, 3) ∧ 75 + 3 = 78 ∧ ((75 : Nat) : Int) + (61) = ((136 : Nat) : Int) := ⟨by decide +kernel, rfl, by decide⟩
theorem dX7_prides_78 : decode cX7_prides 78 = .ok (.aload_n 0, 1) ∧ 78 + 1 = 79 := ⟨by decide +kernel, rfl⟩
theorem dX7_prides_79 : decode cX7_prides 79 = .ok (.getfield 16, 3) ∧ 79 + 3 = 82 := ⟨by decide +kernel, rfl⟩
theorem dX7_prides_82 : decode cX7_prides 82 = .ok (.getfield 158, 3) ∧ 82 + 3 = 85 := ⟨by decide +kernel, rfl⟩
theorem dX7_prides_85 : decode cX7_prides 85 = .ok (.iload_n 2, 1) ∧ 85 + 1 = 86 := ⟨by decide +kernel, rfl⟩
theorem dX7_prides_86 : decode cX7_prides 86 = .ok (.iload 9, 2) ∧ 86 + 2 = 88 := ⟨by decide +kernel, rfl⟩
theorem dX7_prides_88 : decode cX7_prides 88 = .ok (.invokestatic 164, 3) := by decide +kernel
theorem dX7_prides_91 : decode cX7_prides 91 = .ok (.iload 6, 2) ∧ 91 + 2 = 93 := ⟨by decide +kernel, rfl⟩
theorem dX7_prides_93 : decode cX7_prides 93 = .ok (.ifCond .eq 37, 3) ∧ 93 + 3 = 96 ∧ ((93 : Nat) : Int) + (37) = ((130 : Nat) : Int) := ⟨by decide +kernel, rfl, by decide⟩
theorem dX7_prides_96 : decode cX7_prides 96 = .ok (.aload 4, 2) ∧ 96 + 2 = 98 := ⟨by decide +kernel, rfl⟩
theorem dX7_prides_98 : decode cX7_prides 98 = .ok (.iload_n 2, 1) ∧ 98 + 1 = 99 := ⟨by decide +kernel, rfl⟩
theorem dX7_prides_99 : decode cX7_prides 99 = .ok (.aload_n 0, 1) ∧ 99 + 1 = 100 := ⟨by decide +kernel, rfl⟩
theorem dX7_prides_100 : decode cX7_prides 100 = .ok (.getfield 16, 3) ∧ 100 + 3 = 103 := ⟨by decide +kernel, rfl⟩
theorem dX7_prides_103 : decode cX7_prides 103 = .ok (.iload_n 2, 1) ∧ 103 + 1 = 104 := ⟨by decide +kernel, rfl⟩
theorem dX7_prides_104 : decode cX7_prides 104 = .ok (.invokevirtual 183, 3) := by decide +kernel
theorem dX7_prides_107 : decode cX7_prides 107 = .ok (.invokevirtual 267, 3) := by decide +kernel
theorem dX7_prides_110 : decode cX7_prides 110 = .ok (.ifCond .eq 20, 3) ∧ 110 + 3 = 113 ∧ ((110 : Nat) : Int) + (20) = ((130 : Nat) : Int) := ⟨by decide +kernel, rfl, by decide⟩
theorem dX7_prides_113 : decode cX7_prides 113 = .ok (.iload 7, 2) ∧ 113 + 2 = 115 := ⟨by decide +kernel, rfl⟩
theorem dX7_prides_115 : decode cX7_prides 115 = .ok (.ifCond .ne 8, 3) ∧ 115 + 3 = 118 ∧ ((115 : Nat) : Int) + (8) = ((123 : Nat) : Int) := ⟨by decide +kernel, rfl, by decide⟩
theorem dX7_prides_118 : decode cX7_prides 118 = .ok (.iload 9, 2) ∧ 118 + 2 = 120 := ⟨by decide +kernel, rfl⟩
theorem dX7_prides_120 : decode cX7_prides 120 = .ok (.goto 5, 3) ∧ ((120 : Nat) : Int) + (5) = ((125 : Nat) : Int) := ⟨by decide +kernel, by decide⟩
theorem dX7_prides_123 : decode cX7_prides 123 = .ok (.iload 8, 2) ∧ 123 + 2 = 125 := ⟨by decide +kernel, rfl⟩
theorem dX7_prides_125 : decode cX7_prides 125 = .ok (.istore 8, 2) ∧ 125 + 2 = 127 := ⟨by decide +kernel, rfl⟩
theorem dX7_prides_127 : decode cX7_prides 127 = .ok (.iinc 7 1, 3) ∧ 127 + 3 = 130 := ⟨by decide +kernel, rfl⟩
theorem dX7_prides_130 : decode cX7_prides 130 = .ok (.iinc 9 1, 3) ∧ 130 + 3 = 133 := ⟨by decide +kernel, rfl⟩
theorem dX7_prides_133 : decode cX7_prides 133 = .ok (.goto (-62), 3) ∧ ((133 : Nat) : Int) + (-62) = ((71 : Nat) : Int) := ⟨by decide +kernel, by decide⟩
theorem dX7_prides_136 : decode cX7_prides 136 = .ok (.iload_n 3, 1) ∧ 136 + 1 = 137 := ⟨by decide +kernel, rfl⟩
theorem dX7_prides_137 : decode cX7_prides 137 = .ok (.ifCond .ne 8, 3) ∧ 137 + 3 = 140 ∧ ((137 : Nat) : Int) + (8) = ((145 : Nat) : Int) := ⟨by decide +kernel, rfl, by decide⟩
theorem dX7_prides_140 : decode cX7_prides 140 = .ok (.iload 7, 2) ∧ 140 + 2 = 142 := ⟨by decide +kernel, rfl⟩
theorem dX7_prides_142 : decode cX7_prides 142 = .ok (.goto 5, 3) ∧ ((142 : Nat) : Int) + (5) = ((147 : Nat) : Int) := ⟨by decide +kernel, by decide⟩
theorem dX7_prides_145 : decode cX7_prides 145 = .ok (.iload 8, 2) ∧ 145 + 2 = 147 := ⟨by decide +kernel, rfl⟩
theorem dX7_prides_147 : decode cX7_prides 147 = .ok (.ireturn, 1) := by decide +kernel
def B_X7_prides_27 (fu : Nat) (o : Nat) (S : Hp) (x5 : Int32) : Option (Int32 × Hp) :=
  some (x5, S)
set_option maxRecDepth 100000 in
set_option maxHeartbeats 4000000 in
theorem w_X7_prides_27 {E : Cx} {l : Launch} {res : Int32 × Hp} {ad : Nat → Nat} {fu : Nat} {o : Nat} {S : Hp} {x5 : Int32} (K : Kx E cX7_prides RX7 (rmd 6 0 0)) (X : Bx E l yX7_prides 10 (some .int) 0 0 ad (QI res)) (h : B_X7_prides_27 fu o S x5 = some res) : J E 0 0 27 [(5, vI x5)] [] S ad := by
  refine j_iload K dX7_prides_27 0 rfl ?_
  exact j_iret K X dX7_prides_29 h
def B_X7_prides_130 (k71 : Hp → Int32 → Int32 → Int32 → Option (Int32 × Hp)) (fu : Nat) (o : Nat) (S : Hp) (x2 : Int32) (x3 : Int32) (x4 : Option Nat) (x6 : Int32) (x7 : Int32) (x8 : Int32) (x9 : Int32) : Option (Int32 × Hp) :=
  k71 S x7 x8 (x9 + (1 : Int32))
set_option maxRecDepth 100000 in
set_option maxHeartbeats 4000000 in
theorem w_X7_prides_130 {E : Cx} {l : Launch} {res : Int32 × Hp} {ad : Nat → Nat} {k71 : Hp → Int32 → Int32 → Int32 → Option (Int32 × Hp)} {fu : Nat} {o : Nat} {S : Hp} {x2 : Int32} {x3 : Int32} {x4 : Option Nat} {x6 : Int32} {x7 : Int32} {x8 : Int32} {x9 : Int32} (K : Kx E cX7_prides RX7 (rmd 6 0 0)) (X : Bx E l yX7_prides 10 (some .int) 0 0 ad (QI res)) (hk71 : ∀ (S : Hp) (x7 : Int32) (x8 : Int32) (x9 : Int32), k71 S x7 x8 x9 = some res → J E 0 0 71 [(0, vR (some o)), (2, vI x2), (3, vI x3), (4, vR x4), (6, vI x6), (7, vI x7), (8, vI x8), (9, vI x9)] [] S ad) (h : B_X7_prides_130 k71 fu o S x2 x3 x4 x6 x7 x8 x9 = some res) : J E 0 0 130 [(0, vR (some o)), (2, vI x2), (3, vI x3), (4, vR x4), (6, vI x6), (7, vI x7), (8, vI x8), (9, vI x9)] [] S ad := by
  refine j_iinc (q := 7) (v := (x9 + (1 : Int32))) (lv' := [(9, vI (x9 + (1 : Int32))), (0, vR (some o)), (2, vI x2), (3, vI x3), (4, vR x4), (6, vI x6), (7, vI x7), (8, vI x8)]) K dX7_prides_130 rfl rfl X.2.2.1 (by decide) rfl ?_
  refine j_goto K dX7_prides_133 ?_
  exact j_sub [1, 2, 3, 4, 5, 6, 7, 0] rfl (hk71 _ _ _ _ h)
def B_X7_prides_125 (k71 : Hp → Int32 → Int32 → Int32 → Option (Int32 × Hp)) (fu : Nat) (o : Nat) (S : Hp) (x2 : Int32) (x3 : Int32) (x4 : Option Nat) (x6 : Int32) (x7 : Int32) (x9 : Int32) (s0 : Int32) : Option (Int32 × Hp) :=
  B_X7_prides_130 k71 fu o S x2 x3 x4 x6 (x7 + (1 : Int32)) s0 x9
set_option maxRecDepth 100000 in
set_option maxHeartbeats 4000000 in
theorem w_X7_prides_125 {E : Cx} {l : Launch} {res : Int32 × Hp} {ad : Nat → Nat} {k71 : Hp → Int32 → Int32 → Int32 → Option (Int32 × Hp)} {fu : Nat} {o : Nat} {S : Hp} {x2 : Int32} {x3 : Int32} {x4 : Option Nat} {x6 : Int32} {x7 : Int32} {x9 : Int32} {s0 : Int32} (K : Kx E cX7_prides RX7 (rmd 6 0 0)) (X : Bx E l yX7_prides 10 (some .int) 0 0 ad (QI res)) (hk71 : ∀ (S : Hp) (x7 : Int32) (x8 : Int32) (x9 : Int32), k71 S x7 x8 x9 = some res → J E 0 0 71 [(0, vR (some o)), (2, vI x2), (3, vI x3), (4, vR x4), (6, vI x6), (7, vI x7), (8, vI x8), (9, vI x9)] [] S ad) (h : B_X7_prides_125 k71 fu o S x2 x3 x4 x6 x7 x9 s0 = some res) : J E 0 0 125 [(0, vR (some o)), (2, vI x2), (3, vI x3), (4, vR x4), (6, vI x6), (7, vI x7), (9, vI x9)] [vI s0] S ad := by
  refine j_istore (lv' := [(8, vI s0), (0, vR (some o)), (2, vI x2), (3, vI x3), (4, vR x4), (6, vI x6), (7, vI x7), (9, vI x9)]) K dX7_prides_125 X.2.2.1 (by decide) rfl ?_
  refine j_iinc (q := 6) (v := (x7 + (1 : Int32))) (lv' := [(7, vI (x7 + (1 : Int32))), (8, vI s0), (0, vR (some o)), (2, vI x2), (3, vI x3), (4, vR x4), (6, vI x6), (9, vI x9)]) K dX7_prides_127 rfl rfl X.2.2.1 (by decide) rfl ?_
  exact j_sub [2, 3, 4, 5, 6, 0, 1, 7] rfl (w_X7_prides_130 K X hk71 h)
def B_X7_prides_147 (fu : Nat) (o : Nat) (S : Hp) (s0 : Int32) : Option (Int32 × Hp) :=
  some (s0, S)
set_option maxRecDepth 100000 in
set_option maxHeartbeats 4000000 in
theorem w_X7_prides_147 {E : Cx} {l : Launch} {res : Int32 × Hp} {ad : Nat → Nat} {fu : Nat} {o : Nat} {S : Hp} {s0 : Int32} (K : Kx E cX7_prides RX7 (rmd 6 0 0)) (X : Bx E l yX7_prides 10 (some .int) 0 0 ad (QI res)) (h : B_X7_prides_147 fu o S s0 = some res) : J E 0 0 147 [] [vI s0] S ad := by
  exact j_iret K X dX7_prides_147 h
def L_X7_prides_71 (k71 : Hp → Int32 → Int32 → Int32 → Option (Int32 × Hp)) (fu : Nat) (o : Nat) (x2 : Int32) (x3 : Int32) (x4 : Option Nat) (x6 : Int32) (S : Hp) (x7 : Int32) (x8 : Int32) (x9 : Int32) : Option (Int32 × Hp) :=
  if (100 : Int32) ≤ x9 then
    if x3 = 0 then
      B_X7_prides_147 fu o S x7
    else
      B_X7_prides_147 fu o S x8
  else
    (gR S (some o) 5 1).bind fun v79 =>
    (gR S v79 0 3).bind fun v82 =>
    (F_X7_store S v82 x2 x9).bind fun S88 =>
    if x6 = 0 then
      B_X7_prides_130 k71 fu o S88 x2 x3 x4 x6 x7 x8 x9
    else
      (gR S88 (some o) 5 1).bind fun v100 =>
      (ob S88 0 v100).bind fun o104 =>
      b2 (F_X0_beats fu S88 o104 x2) fun v104 S104 =>
      (ob S104 3 x4).bind fun o107 =>
      b2 (F_X4_agrees S104 o107 x2 v104) fun v107 S107 =>
      if v107 = 0 then
        B_X7_prides_130 k71 fu o S107 x2 x3 (some o107) x6 x7 x8 x9
      else
        if x7 = 0 then
          B_X7_prides_125 k71 fu o S107 x2 x3 (some o107) x6 x7 x9 x9
        else
          B_X7_prides_125 k71 fu o S107 x2 x3 (some o107) x6 x7 x9 x8
set_option maxRecDepth 100000 in
set_option maxHeartbeats 4000000 in
theorem wl_X7_prides_71 {E : Cx} {l : Launch} {res : Int32 × Hp} {ad : Nat → Nat} {k71 : Hp → Int32 → Int32 → Int32 → Option (Int32 × Hp)} {fu : Nat} {o : Nat} {S : Hp} {x2 : Int32} {x3 : Int32} {x4 : Option Nat} {x6 : Int32} {x7 : Int32} {x8 : Int32} {x9 : Int32} (K : Kx E cX7_prides RX7 (rmd 6 0 0)) (X : Bx E l yX7_prides 10 (some .int) 0 0 ad (QI res)) (hk71 : ∀ (S : Hp) (x7 : Int32) (x8 : Int32) (x9 : Int32), k71 S x7 x8 x9 = some res → J E 0 0 71 [(0, vR (some o)), (2, vI x2), (3, vI x3), (4, vR x4), (6, vI x6), (7, vI x7), (8, vI x8), (9, vI x9)] [] S ad) (h : L_X7_prides_71 k71 fu o x2 x3 x4 x6 S x7 x8 x9 = some res) : J E 0 0 71 [(0, vR (some o)), (2, vI x2), (3, vI x3), (4, vR x4), (6, vI x6), (7, vI x7), (8, vI x8), (9, vI x9)] [] S ad := by
  refine j_iload K dX7_prides_71 7 rfl ?_
  refine j_bipush (v := (100 : Int32)) K dX7_prides_73 (by decide) ?_
  refine j_icmp_ge K dX7_prides_75 (fun c75 => ?_) (fun c75 => ?_)
  · replace h := it c75 h
    refine j_iload_n K dX7_prides_136 rfl 2 rfl ?_
    refine j_if_ne K dX7_prides_137 (fun c137 => ?_) (fun c137 => ?_)
    · replace h := ie c137 h
      refine j_iload K dX7_prides_145 6 rfl ?_
      exact j_sub [] rfl (w_X7_prides_147 K X h)
    · replace h := it c137 h
      refine j_iload K dX7_prides_140 5 rfl ?_
      refine j_goto K dX7_prides_142 ?_
      exact j_sub [] rfl (w_X7_prides_147 K X h)
  · replace h := ie c75 h
    refine j_aload_n K dX7_prides_78 rfl 0 rfl ?_
    obtain ⟨v79, e79, h⟩ := bd h
    refine fgX7_16 K dX7_prides_79 e79 ?_
    obtain ⟨v82, e82, h⟩ := bd h
    refine fgX7_158 K dX7_prides_82 e82 ?_
    refine j_iload_n K dX7_prides_85 rfl 1 rfl ?_
    refine j_iload K dX7_prides_86 7 rfl ?_
    obtain ⟨S88, e88, h⟩ := bd h
    refine j_cV (st := []) K (r_S (vs := [vR v82, vI x2, vI x9]) (n := 3) K (c_X7_store e88) dX7_prides_88 z500 z216 z1 z217 ⟨zd_X7_store, rfl, rfl, rfl, ⟨Nat.le_of_ble_eq_true rfl, Nat.le_of_ble_eq_true rfl⟩, Nat.le_of_ble_eq_true rfl, Nat.le_of_ble_eq_true rfl, Nat.le_of_ble_eq_true rfl⟩) rfl ?_
    refine j_iload K dX7_prides_91 4 rfl ?_
    refine j_if_eq K dX7_prides_93 (fun c93 => ?_) (fun c93 => ?_)
    · replace h := it c93 h
      exact w_X7_prides_130 K X hk71 h
    · replace h := ie c93 h
      refine j_aload K dX7_prides_96 3 rfl ?_
      refine j_iload_n K dX7_prides_98 rfl 1 rfl ?_
      refine j_aload_n K dX7_prides_99 rfl 0 rfl ?_
      obtain ⟨v100, e100, h⟩ := bd h
      refine fgX7_16 K dX7_prides_100 e100 ?_
      refine j_iload_n K dX7_prides_103 rfl 1 rfl ?_
      obtain ⟨o104, ew104, hz104⟩ := bd h
      obtain ⟨er104, ho104⟩ := ob_some ew104
      subst er104
      have h := hz104
      obtain ⟨v104, S104, e104, h⟩ := bd2 h
      refine j_cI (st := [vI x2, vR x4]) K (r_V (vs := [vI x2]) (n := 1) (o := o104) K (c_X0_beats e104) ho104 (by decide) rfl dX7_prides_104 z517 z518 z519 z2 z520 ⟨zd_X0_beats, rfl, rfl, rfl, ⟨Nat.le_of_ble_eq_true rfl, Nat.le_of_ble_eq_true rfl⟩, Nat.le_of_ble_eq_true rfl, Nat.le_of_ble_eq_true rfl, Nat.le_of_ble_eq_true rfl⟩) rfl ?_
      obtain ⟨o107, ew107, hz107⟩ := bd h
      obtain ⟨er107, ho107⟩ := ob_some ew107
      subst er107
      have h := hz107
      obtain ⟨v107, S107, e107, h⟩ := bd2 h
      refine j_cI (st := []) K (r_V (vs := [vI x2, vI v104]) (n := 2) (o := o107) K (c_X4_agrees e107) ho107 (by decide) rfl dX7_prides_107 z711 z691 z692 z5 z693 ⟨zd_X4_agrees, rfl, rfl, rfl, ⟨Nat.le_of_ble_eq_true rfl, Nat.le_of_ble_eq_true rfl⟩, Nat.le_of_ble_eq_true rfl, Nat.le_of_ble_eq_true rfl, Nat.le_of_ble_eq_true rfl⟩) rfl ?_
      refine j_if_eq K dX7_prides_110 (fun c110 => ?_) (fun c110 => ?_)
      · replace h := it c110 h
        exact w_X7_prides_130 K X hk71 h
      · replace h := ie c110 h
        refine j_iload K dX7_prides_113 5 rfl ?_
        refine j_if_ne K dX7_prides_115 (fun c115 => ?_) (fun c115 => ?_)
        · replace h := ie c115 h
          refine j_iload K dX7_prides_123 6 rfl ?_
          exact j_sub [0, 1, 2, 3, 4, 5, 7] rfl (w_X7_prides_125 K X hk71 h)
        · replace h := it c115 h
          refine j_iload K dX7_prides_118 7 rfl ?_
          refine j_goto K dX7_prides_120 ?_
          exact j_sub [0, 1, 2, 3, 4, 5, 7] rfl (w_X7_prides_125 K X hk71 h)
def B_X7_prides_71 (fu : Nat) (o : Nat) (x2 : Int32) (x3 : Int32) (x4 : Option Nat) (x6 : Int32) : Nat → Hp → Int32 → Int32 → Int32 → Option (Int32 × Hp)
  | 0 => fun _ _ _ _ => none
  | n + 1 => L_X7_prides_71 (B_X7_prides_71 fu o x2 x3 x4 x6 n) fu o x2 x3 x4 x6
theorem w_X7_prides_71 {E : Cx} {l : Launch} {res : Int32 × Hp} {ad : Nat → Nat} {fu : Nat} {o : Nat} {x2 : Int32} {x3 : Int32} {x4 : Option Nat} {x6 : Int32} (K : Kx E cX7_prides RX7 (rmd 6 0 0)) (X : Bx E l yX7_prides 10 (some .int) 0 0 ad (QI res)) : ∀ (n : Nat) (S : Hp) (x7 : Int32) (x8 : Int32) (x9 : Int32), B_X7_prides_71 fu o x2 x3 x4 x6 n S x7 x8 x9 = some res → J E 0 0 71 [(0, vR (some o)), (2, vI x2), (3, vI x3), (4, vR x4), (6, vI x6), (7, vI x7), (8, vI x8), (9, vI x9)] [] S ad := by
  intro n
  induction n with
  | zero =>
    intro S x7 x8 x9 h
    cases h
  | succ n ih =>
    intro S x7 x8 x9 h
    exact wl_X7_prides_71 K X ih h
def B_X7_prides_60 (fu : Nat) (o : Nat) (S : Hp) (x2 : Int32) (x3 : Int32) (x4 : Option Nat) (s0 : Int32) : Option (Int32 × Hp) :=
  B_X7_prides_71 fu o x2 x3 x4 s0 fu S (0 : Int32) (-1 : Int32) (0 : Int32)
set_option maxRecDepth 100000 in
set_option maxHeartbeats 4000000 in
theorem w_X7_prides_60 {E : Cx} {l : Launch} {res : Int32 × Hp} {ad : Nat → Nat} {fu : Nat} {o : Nat} {S : Hp} {x2 : Int32} {x3 : Int32} {x4 : Option Nat} {s0 : Int32} (K : Kx E cX7_prides RX7 (rmd 6 0 0)) (X : Bx E l yX7_prides 10 (some .int) 0 0 ad (QI res)) (h : B_X7_prides_60 fu o S x2 x3 x4 s0 = some res) : J E 0 0 60 [(0, vR (some o)), (2, vI x2), (3, vI x3), (4, vR x4)] [vI s0] S ad := by
  refine j_istore (lv' := [(6, vI s0), (0, vR (some o)), (2, vI x2), (3, vI x3), (4, vR x4)]) K dX7_prides_60 X.2.2.1 (by decide) rfl ?_
  refine j_iconst (v := (0 : Int32)) K dX7_prides_62 (by decide) ?_
  refine j_istore (lv' := [(7, vI (0 : Int32)), (6, vI s0), (0, vR (some o)), (2, vI x2), (3, vI x3), (4, vR x4)]) K dX7_prides_63 X.2.2.1 (by decide) rfl ?_
  refine j_iconst (v := (-1 : Int32)) K dX7_prides_65 (by decide) ?_
  refine j_istore (lv' := [(8, vI (-1 : Int32)), (7, vI (0 : Int32)), (6, vI s0), (0, vR (some o)), (2, vI x2), (3, vI x3), (4, vR x4)]) K dX7_prides_66 X.2.2.1 (by decide) rfl ?_
  refine j_iconst (v := (0 : Int32)) K dX7_prides_68 (by decide) ?_
  refine j_istore (lv' := [(9, vI (0 : Int32)), (8, vI (-1 : Int32)), (7, vI (0 : Int32)), (6, vI s0), (0, vR (some o)), (2, vI x2), (3, vI x3), (4, vR x4)]) K dX7_prides_69 X.2.2.1 (by decide) rfl ?_
  exact j_sub [4, 5, 6, 7, 3, 2, 1, 0] rfl (w_X7_prides_71 K X _ _ _ _ _ h)
def F_X7_prides (fu : Nat) (S : Hp) (o : Nat) (x1 : Int32) (x2 : Int32) (x3 : Int32) : Option (Int32 × Hp) :=
  (ob S 5 (some o)).bind fun _ =>
  b2 (F_X7_sheetAt S o x1) fun v2 S2 =>
  (ob S2 5 (some o)).bind fun _ =>
  b2 (F_X7_refusalToJudge_ S2 o v2 x2 x3) fun v12 S12 =>
  if v2 = none then
    B_X7_prides_27 fu o S12 v12
  else
    if v12 = 0 then
      (gR S12 (some o) 5 1).bind fun v31 =>
      (gR S12 (some o) 5 0).bind fun v35 =>
      (ob S12 0 v31).bind fun o38 =>
      (F_X0_takeFrom fu S12 o38 v35).bind fun S38 =>
      (gR S38 (some o) 5 1).bind fun v42 =>
      (ob S38 0 v42).bind fun o48 =>
      b2 (F_X0_firstOtherwise fu S38 o48 v2 x2) fun v48 S48 =>
      if v48 = (-1 : Int32) then
        B_X7_prides_60 fu o S48 x2 x3 v2 (1 : Int32)
      else
        B_X7_prides_60 fu o S48 x2 x3 v2 (0 : Int32)
    else
      B_X7_prides_27 fu o S12 v12
set_option maxRecDepth 100000 in
set_option maxHeartbeats 4000000 in
theorem w_X7_prides {E : Cx} {l : Launch} {res : Int32 × Hp} {ad : Nat → Nat} {fu : Nat} {S : Hp} {o : Nat} {x1 : Int32} {x2 : Int32} {x3 : Int32} (K : Kx E cX7_prides RX7 (rmd 6 0 0)) (X : Bx E l yX7_prides 10 (some .int) 0 0 ad (QI res)) (h : F_X7_prides fu S o x1 x2 x3 = some res) : J E 0 0 0 [(0, vR (some o)), (1, vI x1), (2, vI x2), (3, vI x3)] [] S ad := by
  refine j_aload_n K dX7_prides_0 rfl 0 rfl ?_
  refine j_iload_n K dX7_prides_1 rfl 1 rfl ?_
  obtain ⟨w2, ew2, h⟩ := bd h
  have ho2 := obS ew2
  obtain ⟨v2, S2, e2, h⟩ := bd2 h
  refine j_cR (st := []) K (r_V (vs := [vI x1]) (n := 1) (o := o) K (c_X7_sheetAt e2) ho2 (by decide) rfl dX7_prides_2 z674 z676 zs21 z1 z677 ⟨zd_X7_sheetAt, rfl, rfl, rfl, ⟨Nat.le_of_ble_eq_true rfl, Nat.le_of_ble_eq_true rfl⟩, Nat.le_of_ble_eq_true rfl, Nat.le_of_ble_eq_true rfl, Nat.le_of_ble_eq_true rfl⟩) rfl ?_
  refine j_astore (lv' := [(4, vR v2), (0, vR (some o)), (1, vI x1), (2, vI x2), (3, vI x3)]) K dX7_prides_5 X.2.2.1 (by decide) rfl ?_
  refine j_aload_n K dX7_prides_7 rfl 1 rfl ?_
  refine j_aload K dX7_prides_8 0 rfl ?_
  refine j_iload_n K dX7_prides_10 rfl 3 rfl ?_
  refine j_iload_n K dX7_prides_11 rfl 4 rfl ?_
  obtain ⟨w12, ew12, h⟩ := bd h
  have ho12 := obS ew12
  obtain ⟨v12, S12, e12, h⟩ := bd2 h
  refine j_cI (st := []) K (r_V (vs := [vR v2, vI x2, vI x3]) (n := 3) (o := o) K (c_X7_refusalToJudge_ e12) ho12 (by decide) rfl dX7_prides_12 z707 z709 zs23 z1 z710 ⟨zd_X7_refusalToJudge_, rfl, rfl, rfl, ⟨Nat.le_of_ble_eq_true rfl, Nat.le_of_ble_eq_true rfl⟩, Nat.le_of_ble_eq_true rfl, Nat.le_of_ble_eq_true rfl, Nat.le_of_ble_eq_true rfl⟩) rfl ?_
  refine j_istore (lv' := [(5, vI v12), (4, vR v2), (0, vR (some o)), (1, vI x1), (2, vI x2), (3, vI x3)]) K dX7_prides_15 X.2.2.1 (by decide) rfl ?_
  refine j_aload K dX7_prides_17 1 rfl ?_
  refine j_ifnull K dX7_prides_19 (fun c19 => ?_) (fun c19 => ?_)
  · replace h := it c19 h
    exact j_sub [0] rfl (w_X7_prides_27 K X h)
  · replace h := ie c19 h
    refine j_iload K dX7_prides_22 0 rfl ?_
    refine j_if_eq K dX7_prides_24 (fun c24 => ?_) (fun c24 => ?_)
    · replace h := it c24 h
      refine j_aload_n K dX7_prides_30 rfl 2 rfl ?_
      obtain ⟨v31, e31, h⟩ := bd h
      refine fgX7_16 K dX7_prides_31 e31 ?_
      refine j_aload_n K dX7_prides_34 rfl 2 rfl ?_
      obtain ⟨v35, e35, h⟩ := bd h
      refine fgX7_10 K dX7_prides_35 e35 ?_
      obtain ⟨o38, ew38, hz38⟩ := bd h
      obtain ⟨er38, ho38⟩ := ob_some ew38
      subst er38
      have h := hz38
      obtain ⟨S38, e38, h⟩ := bd h
      refine j_cV (st := []) K (r_V (vs := [vR v35]) (n := 1) (o := o38) K (c_X0_takeFrom e38) ho38 (by decide) rfl dX7_prides_38 z622 z623 z624 z2 z625 ⟨zd_X0_takeFrom, rfl, rfl, rfl, ⟨Nat.le_of_ble_eq_true rfl, Nat.le_of_ble_eq_true rfl⟩, Nat.le_of_ble_eq_true rfl, Nat.le_of_ble_eq_true rfl, Nat.le_of_ble_eq_true rfl⟩) rfl ?_
      refine j_aload_n K dX7_prides_41 rfl 2 rfl ?_
      obtain ⟨v42, e42, h⟩ := bd h
      refine fgX7_16 K dX7_prides_42 e42 ?_
      refine j_aload K dX7_prides_45 1 rfl ?_
      refine j_iload_n K dX7_prides_47 rfl 4 rfl ?_
      obtain ⟨o48, ew48, hz48⟩ := bd h
      obtain ⟨er48, ho48⟩ := ob_some ew48
      subst er48
      have h := hz48
      obtain ⟨v48, S48, e48, h⟩ := bd2 h
      refine j_cI (st := []) K (r_V (vs := [vR v2, vI x2]) (n := 2) (o := o48) K (c_X0_firstOtherwise e48) ho48 (by decide) rfl dX7_prides_48 z686 z687 z688 z2 z689 ⟨zd_X0_firstOtherwise, rfl, rfl, rfl, ⟨Nat.le_of_ble_eq_true rfl, Nat.le_of_ble_eq_true rfl⟩, Nat.le_of_ble_eq_true rfl, Nat.le_of_ble_eq_true rfl, Nat.le_of_ble_eq_true rfl⟩) rfl ?_
      refine j_iconst (v := (-1 : Int32)) K dX7_prides_51 (by decide) ?_
      refine j_icmp_ne K dX7_prides_52 (fun c52 => ?_) (fun c52 => ?_)
      · replace h := ie c52 h
        refine j_iconst (v := (0 : Int32)) K dX7_prides_59 (by decide) ?_
        exact j_sub [2, 4, 5, 1] rfl (w_X7_prides_60 K X h)
      · replace h := it c52 h
        refine j_iconst (v := (1 : Int32)) K dX7_prides_55 (by decide) ?_
        refine j_goto K dX7_prides_56 ?_
        exact j_sub [2, 4, 5, 1] rfl (w_X7_prides_60 K X h)
    · replace h := ie c24 h
      exact j_sub [0] rfl (w_X7_prides_27 K X h)
theorem c_X7_prides {l : Launch} {fu : Nat} {S : Hp} {o : Nat} {x1 : Int32} {x2 : Int32} {x3 : Int32} {res : Int32 × Hp} (h : F_X7_prides fu S o x1 x2 x3 = some res) : Ct l yX7_prides cX7_prides 10 (some .int) (rmd 6 0 0) 0 0 [vR (some o), vI x1, vI x2, vI x3] S (QI res) :=
  z_entry (by decide +kernel) (Nat.le_of_ble_eq_true rfl) (fun E ad K X => w_X7_prides K X h)

theorem dX7_whose_0 : decode cX7_whose 0 = .ok (.aload_n 0, 1) ∧ 0 + 1 = 1 := ⟨by decide +kernel, rfl⟩
theorem dX7_whose_1 : decode cX7_whose 1 = .ok (.iload_n 1, 1) ∧ 1 + 1 = 2 := ⟨by decide +kernel, rfl⟩
theorem dX7_whose_2 : decode cX7_whose 2 = .ok (.invokevirtual 252, 3) := by decide +kernel
theorem dX7_whose_5 : decode cX7_whose 5 = .ok (.astore 4, 2) ∧ 5 + 2 = 7 := ⟨by decide +kernel, rfl⟩
theorem dX7_whose_7 : decode cX7_whose 7 = .ok (.aload_n 0, 1) ∧ 7 + 1 = 8 := ⟨by decide +kernel, rfl⟩
theorem dX7_whose_8 : decode cX7_whose 8 = .ok (.aload 4, 2) ∧ 8 + 2 = 10 := ⟨by decide +kernel, rfl⟩
theorem dX7_whose_10 : decode cX7_whose 10 = .ok (.invokevirtual 256, 3) := by decide +kernel
theorem dX7_whose_13 : decode cX7_whose 13 = .ok (.istore 5, 2) ∧ 13 + 2 = 15 := ⟨by decide +kernel, rfl⟩
theorem dX7_whose_15 : decode cX7_whose 15 = .ok (.iload 5, 2) ∧ 15 + 2 = 17 := ⟨by decide +kernel, rfl⟩
theorem dX7_whose_17 : decode cX7_whose 17 = .ok (.ifCond .eq 6, 3) ∧ 17 + 3 = 20 ∧ ((17 : Nat) : Int) + (6) = ((23 : Nat) : Int) := ⟨by decide +kernel, rfl, by decide⟩
theorem dX7_whose_20 : decode cX7_whose 20 = .ok (.iload 5, 2) ∧ 20 + 2 = 22 := ⟨by decide +kernel, rfl⟩
theorem dX7_whose_22 : decode cX7_whose 22 = .ok (.ireturn, 1) := by decide +kernel
theorem dX7_whose_23 : decode cX7_whose 23 = .ok (.aload_n 0, 1) ∧ 23 + 1 = 24 := ⟨by decide +kernel, rfl⟩
theorem dX7_whose_24 : decode cX7_whose 24 = .ok (.getfield 10, 3) ∧ 24 + 3 = 27 := ⟨by decide +kernel, rfl⟩
theorem dX7_whose_27 : decode cX7_whose 27 = .ok (.iload_n 2, 1) ∧ 27 + 1 = 28 := ⟨by decide +kernel, rfl⟩
theorem dX7_whose_28 : decode cX7_whose 28 = .ok (.invokevirtual 109, 3) := by decide +kernel
theorem dX7_whose_31 : decode cX7_whose 31 = .ok (.ifCond .ne 6, 3) ∧ 31 + 3 = 34 ∧ ((31 : Nat) : Int) + (6) = ((37 : Nat) : Int) := ⟨by decide +kernel, rfl, by decide⟩
theorem dX7_whose_34 : decode cX7_whose 34 = .ok (.bipush (-6), 2) ∧ 34 + 2 = 36 := ⟨by decide +kernel, rfl⟩
theorem dX7_whose_36 : decode cX7_whose 36 = .ok (.ireturn, 1) := by decide +kernel
theorem dX7_whose_37 : decode cX7_whose 37 = .ok (.iload_n 3, 1) ∧ 37 + 1 = 38 := ⟨by decide +kernel, rfl⟩
theorem dX7_whose_38 : decode cX7_whose 38 = .ok (.invokestatic 155, 3) := by decide +kernel
theorem dX7_whose_41 : decode cX7_whose 41 = .ok (.ifCond .ne 6, 3) ∧ 41 + 3 = 44 ∧ ((41 : Nat) : Int) + (6) = ((47 : Nat) : Int) := ⟨by decide +kernel, rfl, by decide⟩
theorem dX7_whose_44 : decode cX7_whose 44 = .ok (.bipush (-7), 2) ∧ 44 + 2 = 46 := ⟨by decide +kernel, rfl⟩
theorem dX7_whose_46 : decode cX7_whose 46 = .ok (.ireturn, 1) := by decide +kernel
theorem dX7_whose_47 : decode cX7_whose 47 = .ok (.aload_n 0, 1) ∧ 47 + 1 = 48 := ⟨by decide +kernel, rfl⟩
theorem dX7_whose_48 : decode cX7_whose 48 = .ok (.getfield 16, 3) ∧ 48 + 3 = 51 := ⟨by decide +kernel, rfl⟩
theorem dX7_whose_51 : decode cX7_whose 51 = .ok (.aload_n 0, 1) ∧ 51 + 1 = 52 := ⟨by decide +kernel, rfl⟩
theorem dX7_whose_52 : decode cX7_whose 52 = .ok (.getfield 10, 3) ∧ 52 + 3 = 55 := ⟨by decide +kernel, rfl⟩
theorem dX7_whose_55 : decode cX7_whose 55 = .ok (.invokevirtual 230, 3) := by decide +kernel
theorem dX7_whose_58 : decode cX7_whose 58 = .ok (.iconst 0, 1) ∧ 58 + 1 = 59 := ⟨by decide +kernel, rfl⟩
theorem dX7_whose_59 : decode cX7_whose 59 = .ok (.istore 6, 2) ∧ 59 + 2 = 61 := ⟨by decide +kernel, rfl⟩
theorem dX7_whose_61 : decode cX7_whose 61 = .ok (.iconst (-1), 1) ∧ 61 + 1 = 62 := ⟨by decide +kernel, rfl⟩
theorem dX7_whose_62 : decode cX7_whose 62 = .ok (.istore 7, 2) ∧ 62 + 2 = 64 := ⟨by decide +kernel, rfl⟩
theorem dX7_whose_64 : decode cX7_whose 64 = .ok (.iconst 1, 1) ∧ 64 + 1 = 65 := ⟨by decide +kernel, rfl⟩
theorem dX7_whose_65 : decode cX7_whose 65 = .ok (.istore 8, 2) ∧ 65 + 2 = 67 := ⟨by decide +kernel, rfl⟩
theorem dX7_whose_67 : decode cX7_whose 67 = .ok (.iload 8, 2) ∧ 67 + 2 = 69 := ⟨by decide +kernel, rfl⟩
theorem dX7_whose_69 : decode cX7_whose 69 = .ok (.iconst 1, 1) ∧ 69 + 1 = 70 := ⟨by decide +kernel, rfl⟩
theorem dX7_whose_70 : decode cX7_whose 70 = .ok (.aload_n 0, 1) ∧ 70 + 1 = 71 := ⟨by decide +kernel, rfl⟩
theorem dX7_whose_71 : decode cX7_whose 71 = .ok (.getfield 10, 3) ∧ 71 + 3 = 74 := ⟨by decide +kernel, rfl⟩
theorem dX7_whose_74 : decode cX7_whose 74 = .ok (.getfield 90, 3) ∧ 74 + 3 = 77 := ⟨by decide +kernel, rfl⟩
theorem dX7_whose_77 : decode cX7_whose 77 = .ok (.ishl, 1) ∧ 77 + 1 = 78 := ⟨by decide +kernel, rfl⟩
theorem dX7_whose_78 : decode cX7_whose 78 = .ok (.if_icmp .ge 53, 3) ∧ 78 + 3 = 81 ∧ ((78 : Nat) : Int) + (53) = ((131 : Nat) : Int) := ⟨by decide +kernel, rfl, by decide⟩
theorem dX7_whose_81 : decode cX7_whose 81 = .ok (.aload_n 0, 1) ∧ 81 + 1 = 82 := ⟨by decide +kernel, rfl⟩
theorem dX7_whose_82 : decode cX7_whose 82 = .ok (.getfield 16, 3) ∧ 82 + 3 = 85 := ⟨by decide +kernel, rfl⟩
theorem dX7_whose_85 : decode cX7_whose 85 = .ok (.getfield 113, 3) ∧ 85 + 3 = 88 := ⟨by decide +kernel, rfl⟩
theorem dX7_whose_88 : decode cX7_whose 88 = .ok (.iload_n 2, 1) ∧ 88 + 1 = 89 := ⟨by decide +kernel, rfl⟩
theorem dX7_whose_89 : decode cX7_whose 89 = .ok (.iload 8, 2) ∧ 89 + 2 = 91 := ⟨by decide +kernel, rfl⟩
theorem dX7_whose_91 : decode cX7_whose 91 = .ok (.invokestatic 164, 3) := by decide +kernel
theorem dX7_whose_94 : decode cX7_whose 94 = .ok (.aload_n 0, 1) ∧ 94 + 1 = 95 := ⟨by decide +kernel, rfl⟩
theorem dX7_whose_95 : decode cX7_whose 95 = .ok (.getfield 16, 3) ∧ 95 + 3 = 98 := ⟨by decide +kernel, rfl⟩
theorem dX7_whose_98 : decode cX7_whose 98 = .ok (.aload 4, 2) ∧ 98 + 2 = 100 := ⟨by decide +kernel, rfl⟩
theorem dX7_whose_100 : decode cX7_whose 100 = .ok (.iconst (-1), 1) ∧ 100 + 1 = 101 := ⟨by decide +kernel, rfl⟩
theorem dX7_whose_101 : decode cX7_whose 101 = .ok (.invokevirtual 260, 3) := by decide +kernel
theorem dX7_whose_104 : decode cX7_whose 104 = .ok (.iconst (-1), 1) ∧ 104 + 1 = 105 := ⟨by decide +kernel, rfl⟩
theorem dX7_whose_105 : decode cX7_whose 105 = .ok (.if_icmp .ne 20, 3) ∧ 105 + 3 = 108 ∧ ((105 : Nat) : Int) + (20) = ((125 : Nat) : Int) := ⟨by decide +kernel, rfl, by decide⟩
theorem dX7_whose_108 : decode cX7_whose 108 = .ok (.iload 6, 2) ∧ 108 + 2 = 110 := ⟨by decide +kernel, rfl⟩
theorem dX7_whose_110 : decode cX7_whose 110 = .ok (.ifCond .ne 8, 3) ∧ 110 + 3 = 113 ∧ ((110 : Nat) : Int) + (8) = ((118 : Nat) : Int) := ⟨by decide +kernel, rfl, by decide⟩
theorem dX7_whose_113 : decode cX7_whose 113 = .ok (.iload 8, 2) ∧ 113 + 2 = 115 := ⟨by decide +kernel, rfl⟩
theorem dX7_whose_115 : decode cX7_whose 115 = .ok (.goto 5, 3) ∧ ((115 : Nat) : Int) + (5) = ((120 : Nat) : Int) := ⟨by decide +kernel, by decide⟩
theorem dX7_whose_118 : decode cX7_whose 118 = .ok (.iload 7, 2) ∧ 118 + 2 = 120 := ⟨by decide +kernel, rfl⟩
theorem dX7_whose_120 : decode cX7_whose 120 = .ok (.istore 7, 2) ∧ 120 + 2 = 122 := ⟨by decide +kernel, rfl⟩
theorem dX7_whose_122 : decode cX7_whose 122 = .ok (.iinc 6 1, 3) ∧ 122 + 3 = 125 := ⟨by decide +kernel, rfl⟩
theorem dX7_whose_125 : decode cX7_whose 125 = .ok (.iinc 8 1, 3) ∧ 125 + 3 = 128 := ⟨by decide +kernel, rfl⟩
theorem dX7_whose_128 : decode cX7_whose 128 = .ok (.goto (-61), 3) ∧ ((128 : Nat) : Int) + (-61) = ((67 : Nat) : Int) := ⟨by decide +kernel, by decide⟩
theorem dX7_whose_131 : decode cX7_whose 131 = .ok (.iload_n 3, 1) ∧ 131 + 1 = 132 := ⟨by decide +kernel, rfl⟩
theorem dX7_whose_132 : decode cX7_whose 132 = .ok (.ifCond .ne 8, 3) ∧ 132 + 3 = 135 ∧ ((132 : Nat) : Int) + (8) = ((140 : Nat) : Int) := ⟨by decide +kernel, rfl, by decide⟩
theorem dX7_whose_135 : decode cX7_whose 135 = .ok (.iload 6, 2) ∧ 135 + 2 = 137 := ⟨by decide +kernel, rfl⟩
theorem dX7_whose_137 : decode cX7_whose 137 = .ok (.goto 5, 3) ∧ ((137 : Nat) : Int) + (5) = ((142 : Nat) : Int) := ⟨by decide +kernel, by decide⟩
theorem dX7_whose_140 : decode cX7_whose 140 = .ok (.iload 7, 2) ∧ 140 + 2 = 142 := ⟨by decide +kernel, rfl⟩
theorem dX7_whose_142 : decode cX7_whose 142 = .ok (.ireturn, 1) := by decide +kernel
def B_X7_whose_125 (k67 : Hp → Int32 → Int32 → Int32 → Option (Int32 × Hp)) (fu : Nat) (o : Nat) (S : Hp) (x2 : Int32) (x3 : Int32) (x4 : Option Nat) (x6 : Int32) (x7 : Int32) (x8 : Int32) : Option (Int32 × Hp) :=
  k67 S x6 x7 (x8 + (1 : Int32))
set_option maxRecDepth 100000 in
set_option maxHeartbeats 4000000 in
theorem w_X7_whose_125 {E : Cx} {l : Launch} {res : Int32 × Hp} {ad : Nat → Nat} {k67 : Hp → Int32 → Int32 → Int32 → Option (Int32 × Hp)} {fu : Nat} {o : Nat} {S : Hp} {x2 : Int32} {x3 : Int32} {x4 : Option Nat} {x6 : Int32} {x7 : Int32} {x8 : Int32} (K : Kx E cX7_whose RX7 (rmd 6 0 0)) (X : Bx E l yX7_whose 9 (some .int) 0 0 ad (QI res)) (hk67 : ∀ (S : Hp) (x6 : Int32) (x7 : Int32) (x8 : Int32), k67 S x6 x7 x8 = some res → J E 0 0 67 [(0, vR (some o)), (2, vI x2), (3, vI x3), (4, vR x4), (6, vI x6), (7, vI x7), (8, vI x8)] [] S ad) (h : B_X7_whose_125 k67 fu o S x2 x3 x4 x6 x7 x8 = some res) : J E 0 0 125 [(0, vR (some o)), (2, vI x2), (3, vI x3), (4, vR x4), (6, vI x6), (7, vI x7), (8, vI x8)] [] S ad := by
  refine j_iinc (q := 6) (v := (x8 + (1 : Int32))) (lv' := [(8, vI (x8 + (1 : Int32))), (0, vR (some o)), (2, vI x2), (3, vI x3), (4, vR x4), (6, vI x6), (7, vI x7)]) K dX7_whose_125 rfl rfl X.2.2.1 (by decide) rfl ?_
  refine j_goto K dX7_whose_128 ?_
  exact j_sub [1, 2, 3, 4, 5, 6, 0] rfl (hk67 _ _ _ _ h)
def B_X7_whose_120 (k67 : Hp → Int32 → Int32 → Int32 → Option (Int32 × Hp)) (fu : Nat) (o : Nat) (S : Hp) (x2 : Int32) (x3 : Int32) (x4 : Option Nat) (x6 : Int32) (x8 : Int32) (s0 : Int32) : Option (Int32 × Hp) :=
  B_X7_whose_125 k67 fu o S x2 x3 x4 (x6 + (1 : Int32)) s0 x8
set_option maxRecDepth 100000 in
set_option maxHeartbeats 4000000 in
theorem w_X7_whose_120 {E : Cx} {l : Launch} {res : Int32 × Hp} {ad : Nat → Nat} {k67 : Hp → Int32 → Int32 → Int32 → Option (Int32 × Hp)} {fu : Nat} {o : Nat} {S : Hp} {x2 : Int32} {x3 : Int32} {x4 : Option Nat} {x6 : Int32} {x8 : Int32} {s0 : Int32} (K : Kx E cX7_whose RX7 (rmd 6 0 0)) (X : Bx E l yX7_whose 9 (some .int) 0 0 ad (QI res)) (hk67 : ∀ (S : Hp) (x6 : Int32) (x7 : Int32) (x8 : Int32), k67 S x6 x7 x8 = some res → J E 0 0 67 [(0, vR (some o)), (2, vI x2), (3, vI x3), (4, vR x4), (6, vI x6), (7, vI x7), (8, vI x8)] [] S ad) (h : B_X7_whose_120 k67 fu o S x2 x3 x4 x6 x8 s0 = some res) : J E 0 0 120 [(0, vR (some o)), (2, vI x2), (3, vI x3), (4, vR x4), (6, vI x6), (8, vI x8)] [vI s0] S ad := by
  refine j_istore (lv' := [(7, vI s0), (0, vR (some o)), (2, vI x2), (3, vI x3), (4, vR x4), (6, vI x6), (8, vI x8)]) K dX7_whose_120 X.2.2.1 (by decide) rfl ?_
  refine j_iinc (q := 5) (v := (x6 + (1 : Int32))) (lv' := [(6, vI (x6 + (1 : Int32))), (7, vI s0), (0, vR (some o)), (2, vI x2), (3, vI x3), (4, vR x4), (8, vI x8)]) K dX7_whose_122 rfl rfl X.2.2.1 (by decide) rfl ?_
  exact j_sub [2, 3, 4, 5, 0, 1, 6] rfl (w_X7_whose_125 K X hk67 h)
def B_X7_whose_142 (fu : Nat) (o : Nat) (S : Hp) (s0 : Int32) : Option (Int32 × Hp) :=
  some (s0, S)
set_option maxRecDepth 100000 in
set_option maxHeartbeats 4000000 in
theorem w_X7_whose_142 {E : Cx} {l : Launch} {res : Int32 × Hp} {ad : Nat → Nat} {fu : Nat} {o : Nat} {S : Hp} {s0 : Int32} (K : Kx E cX7_whose RX7 (rmd 6 0 0)) (X : Bx E l yX7_whose 9 (some .int) 0 0 ad (QI res)) (h : B_X7_whose_142 fu o S s0 = some res) : J E 0 0 142 [] [vI s0] S ad := by
  exact j_iret K X dX7_whose_142 h
def L_X7_whose_67 (k67 : Hp → Int32 → Int32 → Int32 → Option (Int32 × Hp)) (fu : Nat) (o : Nat) (x2 : Int32) (x3 : Int32) (x4 : Option Nat) (S : Hp) (x6 : Int32) (x7 : Int32) (x8 : Int32) : Option (Int32 × Hp) :=
  (gR S (some o) 5 0).bind fun v71 =>
  (gI S v71 0 0).bind fun v74 =>
  if ((1 : Int32) <<< (v74 &&& 31)) ≤ x8 then
    if x3 = 0 then
      B_X7_whose_142 fu o S x6
    else
      B_X7_whose_142 fu o S x7
  else
    (gR S (some o) 5 1).bind fun v82 =>
    (gR S v82 0 6).bind fun v85 =>
    (F_X7_store S v85 x2 x8).bind fun S91 =>
    (gR S91 (some o) 5 1).bind fun v95 =>
    (ob S91 0 v95).bind fun o101 =>
    b2 (F_X0_firstOtherwise fu S91 o101 x4 (-1 : Int32)) fun v101 S101 =>
    if v101 = (-1 : Int32) then
      if x6 = 0 then
        B_X7_whose_120 k67 fu o S101 x2 x3 x4 x6 x8 x8
      else
        B_X7_whose_120 k67 fu o S101 x2 x3 x4 x6 x8 x7
    else
      B_X7_whose_125 k67 fu o S101 x2 x3 x4 x6 x7 x8
set_option maxRecDepth 100000 in
set_option maxHeartbeats 4000000 in
theorem wl_X7_whose_67 {E : Cx} {l : Launch} {res : Int32 × Hp} {ad : Nat → Nat} {k67 : Hp → Int32 → Int32 → Int32 → Option (Int32 × Hp)} {fu : Nat} {o : Nat} {S : Hp} {x2 : Int32} {x3 : Int32} {x4 : Option Nat} {x6 : Int32} {x7 : Int32} {x8 : Int32} (K : Kx E cX7_whose RX7 (rmd 6 0 0)) (X : Bx E l yX7_whose 9 (some .int) 0 0 ad (QI res)) (hk67 : ∀ (S : Hp) (x6 : Int32) (x7 : Int32) (x8 : Int32), k67 S x6 x7 x8 = some res → J E 0 0 67 [(0, vR (some o)), (2, vI x2), (3, vI x3), (4, vR x4), (6, vI x6), (7, vI x7), (8, vI x8)] [] S ad) (h : L_X7_whose_67 k67 fu o x2 x3 x4 S x6 x7 x8 = some res) : J E 0 0 67 [(0, vR (some o)), (2, vI x2), (3, vI x3), (4, vR x4), (6, vI x6), (7, vI x7), (8, vI x8)] [] S ad := by
  refine j_iload K dX7_whose_67 6 rfl ?_
  refine j_iconst (v := (1 : Int32)) K dX7_whose_69 (by decide) ?_
  refine j_aload_n K dX7_whose_70 rfl 0 rfl ?_
  obtain ⟨v71, e71, h⟩ := bd h
  refine fgX7_10 K dX7_whose_71 e71 ?_
  obtain ⟨v74, e74, h⟩ := bd h
  refine fgX7_90 K dX7_whose_74 e74 ?_
  refine j_ishl K dX7_whose_77 ?_
  refine j_icmp_ge K dX7_whose_78 (fun c78 => ?_) (fun c78 => ?_)
  · replace h := it c78 h
    refine j_iload_n K dX7_whose_131 rfl 2 rfl ?_
    refine j_if_ne K dX7_whose_132 (fun c132 => ?_) (fun c132 => ?_)
    · replace h := ie c132 h
      refine j_iload K dX7_whose_140 5 rfl ?_
      exact j_sub [] rfl (w_X7_whose_142 K X h)
    · replace h := it c132 h
      refine j_iload K dX7_whose_135 4 rfl ?_
      refine j_goto K dX7_whose_137 ?_
      exact j_sub [] rfl (w_X7_whose_142 K X h)
  · replace h := ie c78 h
    refine j_aload_n K dX7_whose_81 rfl 0 rfl ?_
    obtain ⟨v82, e82, h⟩ := bd h
    refine fgX7_16 K dX7_whose_82 e82 ?_
    obtain ⟨v85, e85, h⟩ := bd h
    refine fgX7_113 K dX7_whose_85 e85 ?_
    refine j_iload_n K dX7_whose_88 rfl 1 rfl ?_
    refine j_iload K dX7_whose_89 6 rfl ?_
    obtain ⟨S91, e91, h⟩ := bd h
    refine j_cV (st := []) K (r_S (vs := [vR v85, vI x2, vI x8]) (n := 3) K (c_X7_store e91) dX7_whose_91 z500 z216 z1 z217 ⟨zd_X7_store, rfl, rfl, rfl, ⟨Nat.le_of_ble_eq_true rfl, Nat.le_of_ble_eq_true rfl⟩, Nat.le_of_ble_eq_true rfl, Nat.le_of_ble_eq_true rfl, Nat.le_of_ble_eq_true rfl⟩) rfl ?_
    refine j_aload_n K dX7_whose_94 rfl 0 rfl ?_
    obtain ⟨v95, e95, h⟩ := bd h
    refine fgX7_16 K dX7_whose_95 e95 ?_
    refine j_aload K dX7_whose_98 3 rfl ?_
    refine j_iconst (v := (-1 : Int32)) K dX7_whose_100 (by decide) ?_
    obtain ⟨o101, ew101, hz101⟩ := bd h
    obtain ⟨er101, ho101⟩ := ob_some ew101
    subst er101
    have h := hz101
    obtain ⟨v101, S101, e101, h⟩ := bd2 h
    refine j_cI (st := []) K (r_V (vs := [vR x4, vI (-1 : Int32)]) (n := 2) (o := o101) K (c_X0_firstOtherwise e101) ho101 (by decide) rfl dX7_whose_101 z686 z687 z688 z2 z689 ⟨zd_X0_firstOtherwise, rfl, rfl, rfl, ⟨Nat.le_of_ble_eq_true rfl, Nat.le_of_ble_eq_true rfl⟩, Nat.le_of_ble_eq_true rfl, Nat.le_of_ble_eq_true rfl, Nat.le_of_ble_eq_true rfl⟩) rfl ?_
    refine j_iconst (v := (-1 : Int32)) K dX7_whose_104 (by decide) ?_
    refine j_icmp_ne K dX7_whose_105 (fun c105 => ?_) (fun c105 => ?_)
    · replace h := ie c105 h
      exact w_X7_whose_125 K X hk67 h
    · replace h := it c105 h
      refine j_iload K dX7_whose_108 4 rfl ?_
      refine j_if_ne K dX7_whose_110 (fun c110 => ?_) (fun c110 => ?_)
      · replace h := ie c110 h
        refine j_iload K dX7_whose_118 5 rfl ?_
        exact j_sub [0, 1, 2, 3, 4, 6] rfl (w_X7_whose_120 K X hk67 h)
      · replace h := it c110 h
        refine j_iload K dX7_whose_113 6 rfl ?_
        refine j_goto K dX7_whose_115 ?_
        exact j_sub [0, 1, 2, 3, 4, 6] rfl (w_X7_whose_120 K X hk67 h)
def B_X7_whose_67 (fu : Nat) (o : Nat) (x2 : Int32) (x3 : Int32) (x4 : Option Nat) : Nat → Hp → Int32 → Int32 → Int32 → Option (Int32 × Hp)
  | 0 => fun _ _ _ _ => none
  | n + 1 => L_X7_whose_67 (B_X7_whose_67 fu o x2 x3 x4 n) fu o x2 x3 x4
theorem w_X7_whose_67 {E : Cx} {l : Launch} {res : Int32 × Hp} {ad : Nat → Nat} {fu : Nat} {o : Nat} {x2 : Int32} {x3 : Int32} {x4 : Option Nat} (K : Kx E cX7_whose RX7 (rmd 6 0 0)) (X : Bx E l yX7_whose 9 (some .int) 0 0 ad (QI res)) : ∀ (n : Nat) (S : Hp) (x6 : Int32) (x7 : Int32) (x8 : Int32), B_X7_whose_67 fu o x2 x3 x4 n S x6 x7 x8 = some res → J E 0 0 67 [(0, vR (some o)), (2, vI x2), (3, vI x3), (4, vR x4), (6, vI x6), (7, vI x7), (8, vI x8)] [] S ad := by
  intro n
  induction n with
  | zero =>
    intro S x6 x7 x8 h
    cases h
  | succ n ih =>
    intro S x6 x7 x8 h
    exact wl_X7_whose_67 K X ih h
def F_X7_whose (fu : Nat) (S : Hp) (o : Nat) (x1 : Int32) (x2 : Int32) (x3 : Int32) : Option (Int32 × Hp) :=
  (ob S 5 (some o)).bind fun _ =>
  b2 (F_X7_sheetAt S o x1) fun v2 S2 =>
  (ob S2 5 (some o)).bind fun _ =>
  b2 (F_X7_refusalToJudge S2 o v2) fun v10 S10 =>
  if v10 = 0 then
    (gR S10 (some o) 5 0).bind fun v24 =>
    (ob S10 0 v24).bind fun o28 =>
    b2 (F_X0_hasWrong S10 o28 x2) fun v28 S28 =>
    if v28 = 0 then
      some ((-6 : Int32), S28)
    else
      b2 (F_X7_isZeroOrOne S28 x3) fun v38 S38 =>
      if v38 = 0 then
        some ((-7 : Int32), S38)
      else
        (gR S38 (some o) 5 1).bind fun v48 =>
        (gR S38 (some o) 5 0).bind fun v52 =>
        (ob S38 0 v48).bind fun o55 =>
        (F_X0_takeFrom fu S38 o55 v52).bind fun S55 =>
        B_X7_whose_67 fu o x2 x3 v2 fu S55 (0 : Int32) (-1 : Int32) (1 : Int32)
  else
    some (v10, S10)
set_option maxRecDepth 100000 in
set_option maxHeartbeats 4000000 in
theorem w_X7_whose {E : Cx} {l : Launch} {res : Int32 × Hp} {ad : Nat → Nat} {fu : Nat} {S : Hp} {o : Nat} {x1 : Int32} {x2 : Int32} {x3 : Int32} (K : Kx E cX7_whose RX7 (rmd 6 0 0)) (X : Bx E l yX7_whose 9 (some .int) 0 0 ad (QI res)) (h : F_X7_whose fu S o x1 x2 x3 = some res) : J E 0 0 0 [(0, vR (some o)), (1, vI x1), (2, vI x2), (3, vI x3)] [] S ad := by
  refine j_aload_n K dX7_whose_0 rfl 0 rfl ?_
  refine j_iload_n K dX7_whose_1 rfl 1 rfl ?_
  obtain ⟨w2, ew2, h⟩ := bd h
  have ho2 := obS ew2
  obtain ⟨v2, S2, e2, h⟩ := bd2 h
  refine j_cR (st := []) K (r_V (vs := [vI x1]) (n := 1) (o := o) K (c_X7_sheetAt e2) ho2 (by decide) rfl dX7_whose_2 z674 z676 zs21 z1 z677 ⟨zd_X7_sheetAt, rfl, rfl, rfl, ⟨Nat.le_of_ble_eq_true rfl, Nat.le_of_ble_eq_true rfl⟩, Nat.le_of_ble_eq_true rfl, Nat.le_of_ble_eq_true rfl, Nat.le_of_ble_eq_true rfl⟩) rfl ?_
  refine j_astore (lv' := [(4, vR v2), (0, vR (some o)), (1, vI x1), (2, vI x2), (3, vI x3)]) K dX7_whose_5 X.2.2.1 (by decide) rfl ?_
  refine j_aload_n K dX7_whose_7 rfl 1 rfl ?_
  refine j_aload K dX7_whose_8 0 rfl ?_
  obtain ⟨w10, ew10, h⟩ := bd h
  have ho10 := obS ew10
  obtain ⟨v10, S10, e10, h⟩ := bd2 h
  refine j_cI (st := []) K (r_V (vs := [vR v2]) (n := 1) (o := o) K (c_X7_refusalToJudge e10) ho10 (by decide) rfl dX7_whose_10 z678 z680 zs22 z1 z681 ⟨zd_X7_refusalToJudge, rfl, rfl, rfl, ⟨Nat.le_of_ble_eq_true rfl, Nat.le_of_ble_eq_true rfl⟩, Nat.le_of_ble_eq_true rfl, Nat.le_of_ble_eq_true rfl, Nat.le_of_ble_eq_true rfl⟩) rfl ?_
  refine j_istore (lv' := [(5, vI v10), (4, vR v2), (0, vR (some o)), (1, vI x1), (2, vI x2), (3, vI x3)]) K dX7_whose_13 X.2.2.1 (by decide) rfl ?_
  refine j_iload K dX7_whose_15 0 rfl ?_
  refine j_if_eq K dX7_whose_17 (fun c17 => ?_) (fun c17 => ?_)
  · replace h := it c17 h
    refine j_aload_n K dX7_whose_23 rfl 2 rfl ?_
    obtain ⟨v24, e24, h⟩ := bd h
    refine fgX7_10 K dX7_whose_24 e24 ?_
    refine j_iload_n K dX7_whose_27 rfl 4 rfl ?_
    obtain ⟨o28, ew28, hz28⟩ := bd h
    obtain ⟨er28, ho28⟩ := ob_some ew28
    subst er28
    have h := hz28
    obtain ⟨v28, S28, e28, h⟩ := bd2 h
    refine j_cI (st := []) K (r_V (vs := [vI x2]) (n := 1) (o := o28) K (c_X0_hasWrong e28) ho28 (by decide) rfl dX7_whose_28 z420 z421 z422 z2 z423 ⟨zd_X0_hasWrong, rfl, rfl, rfl, ⟨Nat.le_of_ble_eq_true rfl, Nat.le_of_ble_eq_true rfl⟩, Nat.le_of_ble_eq_true rfl, Nat.le_of_ble_eq_true rfl, Nat.le_of_ble_eq_true rfl⟩) rfl ?_
    refine j_if_ne K dX7_whose_31 (fun c31 => ?_) (fun c31 => ?_)
    · replace h := ie c31 h
      refine j_iload_n K dX7_whose_37 rfl 5 rfl ?_
      obtain ⟨v38, S38, e38, h⟩ := bd2 h
      refine j_cI (st := []) K (r_S (vs := [vI x3]) (n := 1) K (c_X7_isZeroOrOne e38) dX7_whose_38 z497 z498 z1 z499 ⟨zd_X7_isZeroOrOne, rfl, rfl, rfl, ⟨Nat.le_of_ble_eq_true rfl, Nat.le_of_ble_eq_true rfl⟩, Nat.le_of_ble_eq_true rfl, Nat.le_of_ble_eq_true rfl, Nat.le_of_ble_eq_true rfl⟩) rfl ?_
      refine j_if_ne K dX7_whose_41 (fun c41 => ?_) (fun c41 => ?_)
      · replace h := ie c41 h
        refine j_aload_n K dX7_whose_47 rfl 2 rfl ?_
        obtain ⟨v48, e48, h⟩ := bd h
        refine fgX7_16 K dX7_whose_48 e48 ?_
        refine j_aload_n K dX7_whose_51 rfl 2 rfl ?_
        obtain ⟨v52, e52, h⟩ := bd h
        refine fgX7_10 K dX7_whose_52 e52 ?_
        obtain ⟨o55, ew55, hz55⟩ := bd h
        obtain ⟨er55, ho55⟩ := ob_some ew55
        subst er55
        have h := hz55
        obtain ⟨S55, e55, h⟩ := bd h
        refine j_cV (st := []) K (r_V (vs := [vR v52]) (n := 1) (o := o55) K (c_X0_takeFrom e55) ho55 (by decide) rfl dX7_whose_55 z622 z623 z624 z2 z625 ⟨zd_X0_takeFrom, rfl, rfl, rfl, ⟨Nat.le_of_ble_eq_true rfl, Nat.le_of_ble_eq_true rfl⟩, Nat.le_of_ble_eq_true rfl, Nat.le_of_ble_eq_true rfl, Nat.le_of_ble_eq_true rfl⟩) rfl ?_
        refine j_iconst (v := (0 : Int32)) K dX7_whose_58 (by decide) ?_
        refine j_istore (lv' := [(6, vI (0 : Int32)), (5, vI v10), (4, vR v2), (0, vR (some o)), (1, vI x1), (2, vI x2), (3, vI x3)]) K dX7_whose_59 X.2.2.1 (by decide) rfl ?_
        refine j_iconst (v := (-1 : Int32)) K dX7_whose_61 (by decide) ?_
        refine j_istore (lv' := [(7, vI (-1 : Int32)), (6, vI (0 : Int32)), (5, vI v10), (4, vR v2), (0, vR (some o)), (1, vI x1), (2, vI x2), (3, vI x3)]) K dX7_whose_62 X.2.2.1 (by decide) rfl ?_
        refine j_iconst (v := (1 : Int32)) K dX7_whose_64 (by decide) ?_
        refine j_istore (lv' := [(8, vI (1 : Int32)), (7, vI (-1 : Int32)), (6, vI (0 : Int32)), (5, vI v10), (4, vR v2), (0, vR (some o)), (1, vI x1), (2, vI x2), (3, vI x3)]) K dX7_whose_65 X.2.2.1 (by decide) rfl ?_
        exact j_sub [5, 7, 8, 4, 2, 1, 0] rfl (w_X7_whose_67 K X _ _ _ _ _ h)
      · replace h := it c41 h
        refine j_bipush (v := (-7 : Int32)) K dX7_whose_44 (by decide) ?_
        exact j_iret K X dX7_whose_46 h
    · replace h := it c31 h
      refine j_bipush (v := (-6 : Int32)) K dX7_whose_34 (by decide) ?_
      exact j_iret K X dX7_whose_36 h
  · replace h := ie c17 h
    refine j_iload K dX7_whose_20 0 rfl ?_
    exact j_iret K X dX7_whose_22 h
theorem c_X7_whose {l : Launch} {fu : Nat} {S : Hp} {o : Nat} {x1 : Int32} {x2 : Int32} {x3 : Int32} {res : Int32 × Hp} (h : F_X7_whose fu S o x1 x2 x3 = some res) : Ct l yX7_whose cX7_whose 9 (some .int) (rmd 6 0 0) 0 0 [vR (some o), vI x1, vI x2, vI x3] S (QI res) :=
  z_entry (by decide +kernel) (Nat.le_of_ble_eq_true rfl) (fun E ad K X => w_X7_whose K X h)

theorem dX7_laws_0 : decode cX7_laws 0 = .ok (.aload_n 0, 1) ∧ 0 + 1 = 1 := ⟨by decide +kernel, rfl⟩
theorem dX7_laws_1 : decode cX7_laws 1 = .ok (.iload_n 1, 1) ∧ 1 + 1 = 2 := ⟨by decide +kernel, rfl⟩
theorem dX7_laws_2 : decode cX7_laws 2 = .ok (.invokevirtual 252, 3) := by decide +kernel
theorem dX7_laws_5 : decode cX7_laws 5 = .ok (.astore_n 2, 1) ∧ 5 + 1 = 6 := ⟨by decide +kernel, rfl⟩
theorem dX7_laws_6 : decode cX7_laws 6 = .ok (.aload_n 0, 1) ∧ 6 + 1 = 7 := ⟨by decide +kernel, rfl⟩
theorem dX7_laws_7 : decode cX7_laws 7 = .ok (.aload_n 2, 1) ∧ 7 + 1 = 8 := ⟨by decide +kernel, rfl⟩
theorem dX7_laws_8 : decode cX7_laws 8 = .ok (.invokevirtual 256, 3) := by decide +kernel
theorem dX7_laws_11 : decode cX7_laws 11 = .ok (.istore_n 3, 1) ∧ 11 + 1 = 12 := ⟨by decide +kernel, rfl⟩
theorem dX7_laws_12 : decode cX7_laws 12 = .ok (.iload_n 3, 1) ∧ 12 + 1 = 13 := ⟨by decide +kernel, rfl⟩
theorem dX7_laws_13 : decode cX7_laws 13 = .ok (.ifCond .eq 5, 3) ∧ 13 + 3 = 16 ∧ ((13 : Nat) : Int) + (5) = ((18 : Nat) : Int) := ⟨by decide +kernel, rfl, by decide⟩
theorem dX7_laws_16 : decode cX7_laws 16 = .ok (.iload_n 3, 1) ∧ 16 + 1 = 17 := ⟨by decide +kernel, rfl⟩
theorem dX7_laws_17 : decode cX7_laws 17 = .ok (.ireturn, 1) := by decide +kernel
theorem dX7_laws_18 : decode cX7_laws 18 = .ok (.aload_n 0, 1) ∧ 18 + 1 = 19 := ⟨by decide +kernel, rfl⟩
theorem dX7_laws_19 : decode cX7_laws 19 = .ok (.getfield 16, 3) ∧ 19 + 3 = 22 := ⟨by decide +kernel, rfl⟩
theorem dX7_laws_22 : decode cX7_laws 22 = .ok (.aload_n 0, 1) ∧ 22 + 1 = 23 := ⟨by decide +kernel, rfl⟩
theorem dX7_laws_23 : decode cX7_laws 23 = .ok (.getfield 10, 3) ∧ 23 + 3 = 26 := ⟨by decide +kernel, rfl⟩
theorem dX7_laws_26 : decode cX7_laws 26 = .ok (.invokevirtual 230, 3) := by decide +kernel
theorem dX7_laws_29 : decode cX7_laws 29 = .ok (.iconst 0, 1) ∧ 29 + 1 = 30 := ⟨by decide +kernel, rfl⟩
theorem dX7_laws_30 : decode cX7_laws 30 = .ok (.istore 4, 2) ∧ 30 + 2 = 32 := ⟨by decide +kernel, rfl⟩
theorem dX7_laws_32 : decode cX7_laws 32 = .ok (.iconst 0, 1) ∧ 32 + 1 = 33 := ⟨by decide +kernel, rfl⟩
theorem dX7_laws_33 : decode cX7_laws 33 = .ok (.istore 5, 2) ∧ 33 + 2 = 35 := ⟨by decide +kernel, rfl⟩
theorem dX7_laws_35 : decode cX7_laws 35 = .ok (.iload 5, 2) ∧ 35 + 2 = 37 := ⟨by decide +kernel, rfl⟩
theorem dX7_laws_37 : decode cX7_laws 37 = .ok (.aload_n 0, 1) ∧ 37 + 1 = 38 := ⟨by decide +kernel, rfl⟩
theorem dX7_laws_38 : decode cX7_laws 38 = .ok (.getfield 48, 3) ∧ 38 + 3 = 41 := ⟨by decide +kernel, rfl⟩
theorem dX7_laws_41 : decode cX7_laws 41 = .ok (.if_icmp .ge 46, 3) ∧ 41 + 3 = 44 ∧ ((41 : Nat) : Int) + (46) = ((87 : Nat) : Int) := ⟨by decide +kernel, rfl, by decide⟩
theorem dX7_laws_44 : decode cX7_laws 44 = .ok (.aload_n 0, 1) ∧ 44 + 1 = 45 := ⟨by decide +kernel, rfl⟩
theorem dX7_laws_45 : decode cX7_laws 45 = .ok (.getfield 16, 3) ∧ 45 + 3 = 48 := ⟨by decide +kernel, rfl⟩
theorem dX7_laws_48 : decode cX7_laws 48 = .ok (.iload 5, 2) ∧ 48 + 2 = 50 := ⟨by decide +kernel, rfl⟩
theorem dX7_laws_50 : decode cX7_laws 50 = .ok (.aload_n 0, 1) ∧ 50 + 1 = 51 := ⟨by decide +kernel, rfl⟩
theorem dX7_laws_51 : decode cX7_laws 51 = .ok (.iload 5, 2) ∧ 51 + 2 = 53 := ⟨by decide +kernel, rfl⟩
theorem dX7_laws_53 : decode cX7_laws 53 = .ok (.invokevirtual 139, 3) := by decide +kernel
theorem dX7_laws_56 : decode cX7_laws 56 = .ok (.invokevirtual 86, 3) := by decide +kernel
theorem dX7_laws_59 : decode cX7_laws 59 = .ok (.aload_n 0, 1) ∧ 59 + 1 = 60 := ⟨by decide +kernel, rfl⟩
theorem dX7_laws_60 : decode cX7_laws 60 = .ok (.getfield 16, 3) ∧ 60 + 3 = 63 := ⟨by decide +kernel, rfl⟩
theorem dX7_laws_63 : decode cX7_laws 63 = .ok (.aload_n 2, 1) ∧ 63 + 1 = 64 := ⟨by decide +kernel, rfl⟩
theorem dX7_laws_64 : decode cX7_laws 64 = .ok (.iconst (-1), 1) ∧ 64 + 1 = 65 := ⟨by decide +kernel, rfl⟩
theorem dX7_laws_65 : decode cX7_laws 65 = .ok (.invokevirtual 260, 3) := by decide +kernel
theorem dX7_laws_68 : decode cX7_laws 68 = .ok (.iconst (-1), 1) ∧ 68 + 1 = 69 := ⟨by decide +kernel, rfl⟩
theorem dX7_laws_69 : decode cX7_laws 69 = .ok (.if_icmp .ne 12, 3) ∧ 69 + 3 = 72 ∧ ((69 : Nat) : Int) + (12) = ((81 : Nat) : Int) := ⟨by decide +kernel, rfl, by decide⟩
theorem dX7_laws_72 : decode cX7_laws 72 = .ok (.iload 4, 2) ∧ 72 + 2 = 74 := ⟨by decide +kernel, rfl⟩
theorem dX7_laws_74 : decode cX7_laws 74 = .ok (.iconst 1, 1) ∧ 74 + 1 = 75 := ⟨by decide +kernel, rfl⟩
theorem dX7_laws_75 : decode cX7_laws 75 = .ok (.iload 5, 2) ∧ 75 + 2 = 77 := ⟨by decide +kernel, rfl⟩
theorem dX7_laws_77 : decode cX7_laws 77 = .ok (.ishl, 1) ∧ 77 + 1 = 78 := ⟨by decide +kernel, rfl⟩
theorem dX7_laws_78 : decode cX7_laws 78 = .ok (.ior, 1) ∧ 78 + 1 = 79 := ⟨by decide +kernel, rfl⟩
theorem dX7_laws_79 : decode cX7_laws 79 = .ok (.istore 4, 2) ∧ 79 + 2 = 81 := ⟨by decide +kernel, rfl⟩
theorem dX7_laws_81 : decode cX7_laws 81 = .ok (.iinc 5 1, 3) ∧ 81 + 3 = 84 := ⟨by decide +kernel, rfl⟩
theorem dX7_laws_84 : decode cX7_laws 84 = .ok (.goto (-49), 3) ∧ ((84 : Nat) : Int) + (-49) = ((35 : Nat) : Int) := ⟨by decide +kernel, by decide⟩
theorem dX7_laws_87 : decode cX7_laws 87 = .ok (.iload 4, 2) ∧ 87 + 2 = 89 := ⟨by decide +kernel, rfl⟩
theorem dX7_laws_89 : decode cX7_laws 89 = .ok (.ireturn, 1) := by decide +kernel
def B_X7_laws_81 (k35 : Hp → Int32 → Int32 → Option (Int32 × Hp)) (fu : Nat) (o : Nat) (S : Hp) (x2 : Option Nat) (x4 : Int32) (x5 : Int32) : Option (Int32 × Hp) :=
  k35 S x4 (x5 + (1 : Int32))
set_option maxRecDepth 100000 in
set_option maxHeartbeats 4000000 in
theorem w_X7_laws_81 {E : Cx} {l : Launch} {res : Int32 × Hp} {ad : Nat → Nat} {k35 : Hp → Int32 → Int32 → Option (Int32 × Hp)} {fu : Nat} {o : Nat} {S : Hp} {x2 : Option Nat} {x4 : Int32} {x5 : Int32} (K : Kx E cX7_laws RX7 (rmd 6 0 0)) (X : Bx E l yX7_laws 6 (some .int) 0 0 ad (QI res)) (hk35 : ∀ (S : Hp) (x4 : Int32) (x5 : Int32), k35 S x4 x5 = some res → J E 0 0 35 [(0, vR (some o)), (2, vR x2), (4, vI x4), (5, vI x5)] [] S ad) (h : B_X7_laws_81 k35 fu o S x2 x4 x5 = some res) : J E 0 0 81 [(0, vR (some o)), (2, vR x2), (4, vI x4), (5, vI x5)] [] S ad := by
  refine j_iinc (q := 3) (v := (x5 + (1 : Int32))) (lv' := [(5, vI (x5 + (1 : Int32))), (0, vR (some o)), (2, vR x2), (4, vI x4)]) K dX7_laws_81 rfl rfl X.2.2.1 (by decide) rfl ?_
  refine j_goto K dX7_laws_84 ?_
  exact j_sub [1, 2, 3, 0] rfl (hk35 _ _ _ h)
def L_X7_laws_35 (k35 : Hp → Int32 → Int32 → Option (Int32 × Hp)) (fu : Nat) (o : Nat) (x2 : Option Nat) (S : Hp) (x4 : Int32) (x5 : Int32) : Option (Int32 × Hp) :=
  (gI S (some o) 5 7).bind fun v38 =>
  if v38 ≤ x5 then
    some (x4, S)
  else
    (gR S (some o) 5 1).bind fun v45 =>
    (ob S 5 (some o)).bind fun _ =>
    b2 (F_X7_textAt S o x5) fun v53 S53 =>
    (ob S53 0 v45).bind fun o56 =>
    (F_X0_rule S53 o56 x5 v53).bind fun S56 =>
    (gR S56 (some o) 5 1).bind fun v60 =>
    (ob S56 0 v60).bind fun o65 =>
    b2 (F_X0_firstOtherwise fu S56 o65 x2 (-1 : Int32)) fun v65 S65 =>
    if v65 = (-1 : Int32) then
      B_X7_laws_81 k35 fu o S65 x2 (x4 ||| ((1 : Int32) <<< (x5 &&& 31))) x5
    else
      B_X7_laws_81 k35 fu o S65 x2 x4 x5
set_option maxRecDepth 100000 in
set_option maxHeartbeats 4000000 in
theorem wl_X7_laws_35 {E : Cx} {l : Launch} {res : Int32 × Hp} {ad : Nat → Nat} {k35 : Hp → Int32 → Int32 → Option (Int32 × Hp)} {fu : Nat} {o : Nat} {S : Hp} {x2 : Option Nat} {x4 : Int32} {x5 : Int32} (K : Kx E cX7_laws RX7 (rmd 6 0 0)) (X : Bx E l yX7_laws 6 (some .int) 0 0 ad (QI res)) (hk35 : ∀ (S : Hp) (x4 : Int32) (x5 : Int32), k35 S x4 x5 = some res → J E 0 0 35 [(0, vR (some o)), (2, vR x2), (4, vI x4), (5, vI x5)] [] S ad) (h : L_X7_laws_35 k35 fu o x2 S x4 x5 = some res) : J E 0 0 35 [(0, vR (some o)), (2, vR x2), (4, vI x4), (5, vI x5)] [] S ad := by
  refine j_iload K dX7_laws_35 3 rfl ?_
  refine j_aload_n K dX7_laws_37 rfl 0 rfl ?_
  obtain ⟨v38, e38, h⟩ := bd h
  refine fgX7_48 K dX7_laws_38 e38 ?_
  refine j_icmp_ge K dX7_laws_41 (fun c41 => ?_) (fun c41 => ?_)
  · replace h := it c41 h
    refine j_iload K dX7_laws_87 2 rfl ?_
    exact j_iret K X dX7_laws_89 h
  · replace h := ie c41 h
    refine j_aload_n K dX7_laws_44 rfl 0 rfl ?_
    obtain ⟨v45, e45, h⟩ := bd h
    refine fgX7_16 K dX7_laws_45 e45 ?_
    refine j_iload K dX7_laws_48 3 rfl ?_
    refine j_aload_n K dX7_laws_50 rfl 0 rfl ?_
    refine j_iload K dX7_laws_51 3 rfl ?_
    obtain ⟨w53, ew53, h⟩ := bd h
    have ho53 := obS ew53
    obtain ⟨v53, S53, e53, h⟩ := bd2 h
    refine j_cR (st := [vI x5, vR v45]) K (r_V (vs := [vI x5]) (n := 1) (o := o) K (c_X7_textAt e53) ho53 (by decide) rfl dX7_laws_53 z453 z455 zs17 z1 z456 ⟨zd_X7_textAt, rfl, rfl, rfl, ⟨Nat.le_of_ble_eq_true rfl, Nat.le_of_ble_eq_true rfl⟩, Nat.le_of_ble_eq_true rfl, Nat.le_of_ble_eq_true rfl, Nat.le_of_ble_eq_true rfl⟩) rfl ?_
    obtain ⟨o56, ew56, hz56⟩ := bd h
    obtain ⟨er56, ho56⟩ := ob_some ew56
    subst er56
    have h := hz56
    obtain ⟨S56, e56, h⟩ := bd h
    refine j_cV (st := []) K (r_V (vs := [vI x5, vR v53]) (n := 2) (o := o56) K (c_X0_rule e56) ho56 (by decide) rfl dX7_laws_56 z368 z369 z370 z2 z371 ⟨zd_X0_rule, rfl, rfl, rfl, ⟨Nat.le_of_ble_eq_true rfl, Nat.le_of_ble_eq_true rfl⟩, Nat.le_of_ble_eq_true rfl, Nat.le_of_ble_eq_true rfl, Nat.le_of_ble_eq_true rfl⟩) rfl ?_
    refine j_aload_n K dX7_laws_59 rfl 0 rfl ?_
    obtain ⟨v60, e60, h⟩ := bd h
    refine fgX7_16 K dX7_laws_60 e60 ?_
    refine j_aload_n K dX7_laws_63 rfl 1 rfl ?_
    refine j_iconst (v := (-1 : Int32)) K dX7_laws_64 (by decide) ?_
    obtain ⟨o65, ew65, hz65⟩ := bd h
    obtain ⟨er65, ho65⟩ := ob_some ew65
    subst er65
    have h := hz65
    obtain ⟨v65, S65, e65, h⟩ := bd2 h
    refine j_cI (st := []) K (r_V (vs := [vR x2, vI (-1 : Int32)]) (n := 2) (o := o65) K (c_X0_firstOtherwise e65) ho65 (by decide) rfl dX7_laws_65 z686 z687 z688 z2 z689 ⟨zd_X0_firstOtherwise, rfl, rfl, rfl, ⟨Nat.le_of_ble_eq_true rfl, Nat.le_of_ble_eq_true rfl⟩, Nat.le_of_ble_eq_true rfl, Nat.le_of_ble_eq_true rfl, Nat.le_of_ble_eq_true rfl⟩) rfl ?_
    refine j_iconst (v := (-1 : Int32)) K dX7_laws_68 (by decide) ?_
    refine j_icmp_ne K dX7_laws_69 (fun c69 => ?_) (fun c69 => ?_)
    · replace h := ie c69 h
      exact w_X7_laws_81 K X hk35 h
    · replace h := it c69 h
      refine j_iload K dX7_laws_72 2 rfl ?_
      refine j_iconst (v := (1 : Int32)) K dX7_laws_74 (by decide) ?_
      refine j_iload K dX7_laws_75 3 rfl ?_
      refine j_ishl K dX7_laws_77 ?_
      refine j_ior K dX7_laws_78 ?_
      refine j_istore (lv' := [(4, vI (x4 ||| ((1 : Int32) <<< (x5 &&& 31)))), (0, vR (some o)), (2, vR x2), (5, vI x5)]) K dX7_laws_79 X.2.2.1 (by decide) rfl ?_
      exact j_sub [1, 2, 0, 3] rfl (w_X7_laws_81 K X hk35 h)
def B_X7_laws_35 (fu : Nat) (o : Nat) (x2 : Option Nat) : Nat → Hp → Int32 → Int32 → Option (Int32 × Hp)
  | 0 => fun _ _ _ => none
  | n + 1 => L_X7_laws_35 (B_X7_laws_35 fu o x2 n) fu o x2
theorem w_X7_laws_35 {E : Cx} {l : Launch} {res : Int32 × Hp} {ad : Nat → Nat} {fu : Nat} {o : Nat} {x2 : Option Nat} (K : Kx E cX7_laws RX7 (rmd 6 0 0)) (X : Bx E l yX7_laws 6 (some .int) 0 0 ad (QI res)) : ∀ (n : Nat) (S : Hp) (x4 : Int32) (x5 : Int32), B_X7_laws_35 fu o x2 n S x4 x5 = some res → J E 0 0 35 [(0, vR (some o)), (2, vR x2), (4, vI x4), (5, vI x5)] [] S ad := by
  intro n
  induction n with
  | zero =>
    intro S x4 x5 h
    cases h
  | succ n ih =>
    intro S x4 x5 h
    exact wl_X7_laws_35 K X ih h
def F_X7_laws (fu : Nat) (S : Hp) (o : Nat) (x1 : Int32) : Option (Int32 × Hp) :=
  (ob S 5 (some o)).bind fun _ =>
  b2 (F_X7_sheetAt S o x1) fun v2 S2 =>
  (ob S2 5 (some o)).bind fun _ =>
  b2 (F_X7_refusalToJudge S2 o v2) fun v8 S8 =>
  if v8 = 0 then
    (gR S8 (some o) 5 1).bind fun v19 =>
    (gR S8 (some o) 5 0).bind fun v23 =>
    (ob S8 0 v19).bind fun o26 =>
    (F_X0_takeFrom fu S8 o26 v23).bind fun S26 =>
    B_X7_laws_35 fu o v2 fu S26 (0 : Int32) (0 : Int32)
  else
    some (v8, S8)
set_option maxRecDepth 100000 in
set_option maxHeartbeats 4000000 in
theorem w_X7_laws {E : Cx} {l : Launch} {res : Int32 × Hp} {ad : Nat → Nat} {fu : Nat} {S : Hp} {o : Nat} {x1 : Int32} (K : Kx E cX7_laws RX7 (rmd 6 0 0)) (X : Bx E l yX7_laws 6 (some .int) 0 0 ad (QI res)) (h : F_X7_laws fu S o x1 = some res) : J E 0 0 0 [(0, vR (some o)), (1, vI x1)] [] S ad := by
  refine j_aload_n K dX7_laws_0 rfl 0 rfl ?_
  refine j_iload_n K dX7_laws_1 rfl 1 rfl ?_
  obtain ⟨w2, ew2, h⟩ := bd h
  have ho2 := obS ew2
  obtain ⟨v2, S2, e2, h⟩ := bd2 h
  refine j_cR (st := []) K (r_V (vs := [vI x1]) (n := 1) (o := o) K (c_X7_sheetAt e2) ho2 (by decide) rfl dX7_laws_2 z674 z676 zs21 z1 z677 ⟨zd_X7_sheetAt, rfl, rfl, rfl, ⟨Nat.le_of_ble_eq_true rfl, Nat.le_of_ble_eq_true rfl⟩, Nat.le_of_ble_eq_true rfl, Nat.le_of_ble_eq_true rfl, Nat.le_of_ble_eq_true rfl⟩) rfl ?_
  refine j_astore_n (lv' := [(2, vR v2), (0, vR (some o)), (1, vI x1)]) K dX7_laws_5 rfl X.2.2.1 (by decide) rfl ?_
  refine j_aload_n K dX7_laws_6 rfl 1 rfl ?_
  refine j_aload_n K dX7_laws_7 rfl 0 rfl ?_
  obtain ⟨w8, ew8, h⟩ := bd h
  have ho8 := obS ew8
  obtain ⟨v8, S8, e8, h⟩ := bd2 h
  refine j_cI (st := []) K (r_V (vs := [vR v2]) (n := 1) (o := o) K (c_X7_refusalToJudge e8) ho8 (by decide) rfl dX7_laws_8 z678 z680 zs22 z1 z681 ⟨zd_X7_refusalToJudge, rfl, rfl, rfl, ⟨Nat.le_of_ble_eq_true rfl, Nat.le_of_ble_eq_true rfl⟩, Nat.le_of_ble_eq_true rfl, Nat.le_of_ble_eq_true rfl, Nat.le_of_ble_eq_true rfl⟩) rfl ?_
  refine j_istore_n (lv' := [(3, vI v8), (2, vR v2), (0, vR (some o)), (1, vI x1)]) K dX7_laws_11 rfl X.2.2.1 (by decide) rfl ?_
  refine j_iload_n K dX7_laws_12 rfl 0 rfl ?_
  refine j_if_eq K dX7_laws_13 (fun c13 => ?_) (fun c13 => ?_)
  · replace h := it c13 h
    refine j_aload_n K dX7_laws_18 rfl 2 rfl ?_
    obtain ⟨v19, e19, h⟩ := bd h
    refine fgX7_16 K dX7_laws_19 e19 ?_
    refine j_aload_n K dX7_laws_22 rfl 2 rfl ?_
    obtain ⟨v23, e23, h⟩ := bd h
    refine fgX7_10 K dX7_laws_23 e23 ?_
    obtain ⟨o26, ew26, hz26⟩ := bd h
    obtain ⟨er26, ho26⟩ := ob_some ew26
    subst er26
    have h := hz26
    obtain ⟨S26, e26, h⟩ := bd h
    refine j_cV (st := []) K (r_V (vs := [vR v23]) (n := 1) (o := o26) K (c_X0_takeFrom e26) ho26 (by decide) rfl dX7_laws_26 z622 z623 z624 z2 z625 ⟨zd_X0_takeFrom, rfl, rfl, rfl, ⟨Nat.le_of_ble_eq_true rfl, Nat.le_of_ble_eq_true rfl⟩, Nat.le_of_ble_eq_true rfl, Nat.le_of_ble_eq_true rfl, Nat.le_of_ble_eq_true rfl⟩) rfl ?_
    refine j_iconst (v := (0 : Int32)) K dX7_laws_29 (by decide) ?_
    refine j_istore (lv' := [(4, vI (0 : Int32)), (3, vI v8), (2, vR v2), (0, vR (some o)), (1, vI x1)]) K dX7_laws_30 X.2.2.1 (by decide) rfl ?_
    refine j_iconst (v := (0 : Int32)) K dX7_laws_32 (by decide) ?_
    refine j_istore (lv' := [(5, vI (0 : Int32)), (4, vI (0 : Int32)), (3, vI v8), (2, vR v2), (0, vR (some o)), (1, vI x1)]) K dX7_laws_33 X.2.2.1 (by decide) rfl ?_
    exact j_sub [4, 3, 1, 0] rfl (w_X7_laws_35 K X _ _ _ _ h)
  · replace h := ie c13 h
    refine j_iload_n K dX7_laws_16 rfl 0 rfl ?_
    exact j_iret K X dX7_laws_17 h
theorem c_X7_laws {l : Launch} {fu : Nat} {S : Hp} {o : Nat} {x1 : Int32} {res : Int32 × Hp} (h : F_X7_laws fu S o x1 = some res) : Ct l yX7_laws cX7_laws 6 (some .int) (rmd 6 0 0) 0 0 [vR (some o), vI x1] S (QI res) :=
  z_entry (by decide +kernel) (Nat.le_of_ble_eq_true rfl) (fun E ad K X => w_X7_laws K X h)

theorem dX7_film_0 : decode cX7_film 0 = .ok (.aload_n 0, 1) ∧ 0 + 1 = 1 := ⟨by decide +kernel, rfl⟩
theorem dX7_film_1 : decode cX7_film 1 = .ok (.iload_n 1, 1) ∧ 1 + 1 = 2 := ⟨by decide +kernel, rfl⟩
theorem dX7_film_2 : decode cX7_film 2 = .ok (.invokevirtual 252, 3) := by decide +kernel
theorem dX7_film_5 : decode cX7_film 5 = .ok (.astore_n 2, 1) ∧ 5 + 1 = 6 := ⟨by decide +kernel, rfl⟩
theorem dX7_film_6 : decode cX7_film 6 = .ok (.aload_n 2, 1) ∧ 6 + 1 = 7 := ⟨by decide +kernel, rfl⟩
theorem dX7_film_7 : decode cX7_film 7 = .ok (.ifnonnull 6, 3) ∧ 7 + 3 = 10 ∧ ((7 : Nat) : Int) + (6) = ((13 : Nat) : Int) := ⟨by decide +kernel, rfl, by decide⟩
theorem dX7_film_10 : decode cX7_film 10 = .ok (.bipush (-2), 2) ∧ 10 + 2 = 12 := ⟨by decide +kernel, rfl⟩
theorem dX7_film_12 : decode cX7_film 12 = .ok (.ireturn, 1) := by decide +kernel
theorem dX7_film_13 : decode cX7_film 13 = .ok (.aload_n 2, 1) ∧ 13 + 1 = 14 := ⟨by decide +kernel, rfl⟩
theorem dX7_film_14 : decode cX7_film 14 = .ok (.iconst 1, 1) ∧ 14 + 1 = 15 := ⟨by decide +kernel, rfl⟩
theorem dX7_film_15 : decode cX7_film 15 = .ok (.aload_n 0, 1) ∧ 15 + 1 = 16 := ⟨by decide +kernel, rfl⟩
theorem dX7_film_16 : decode cX7_film 16 = .ok (.getfield 10, 3) ∧ 16 + 3 = 19 := ⟨by decide +kernel, rfl⟩
theorem dX7_film_19 : decode cX7_film 19 = .ok (.getfield 90, 3) ∧ 19 + 3 = 22 := ⟨by decide +kernel, rfl⟩
theorem dX7_film_22 : decode cX7_film 22 = .ok (.invokevirtual 270, 3) := by decide +kernel
theorem dX7_film_25 : decode cX7_film 25 = .ok (.iconst 0, 1) ∧ 25 + 1 = 26 := ⟨by decide +kernel, rfl⟩
theorem dX7_film_26 : decode cX7_film 26 = .ok (.istore_n 3, 1) ∧ 26 + 1 = 27 := ⟨by decide +kernel, rfl⟩
theorem dX7_film_27 : decode cX7_film 27 = .ok (.iload_n 3, 1) ∧ 27 + 1 = 28 := ⟨by decide +kernel, rfl⟩
theorem dX7_film_28 : decode cX7_film 28 = .ok (.aload_n 0, 1) ∧ 28 + 1 = 29 := ⟨by decide +kernel, rfl⟩
theorem dX7_film_29 : decode cX7_film 29 = .ok (.getfield 10, 3) ∧ 29 + 3 = 32 := ⟨by decide +kernel, rfl⟩
theorem dX7_film_32 : decode cX7_film 32 = .ok (.getfield 90, 3) ∧ 32 + 3 = 35 := ⟨by decide +kernel, rfl⟩
theorem dX7_film_35 : decode cX7_film 35 = .ok (.if_icmp .ge 22, 3) ∧ 35 + 3 = 38 ∧ ((35 : Nat) : Int) + (22) = ((57 : Nat) : Int) := ⟨by decide +kernel, rfl, by decide⟩
theorem dX7_film_38 : decode cX7_film 38 = .ok (.aload_n 2, 1) ∧ 38 + 1 = 39 := ⟨by decide +kernel, rfl⟩
theorem dX7_film_39 : decode cX7_film 39 = .ok (.iload_n 3, 1) ∧ 39 + 1 = 40 := ⟨by decide +kernel, rfl⟩
theorem dX7_film_40 : decode cX7_film 40 = .ok (.aload_n 0, 1) ∧ 40 + 1 = 41 := ⟨by decide +kernel, rfl⟩
theorem dX7_film_41 : decode cX7_film 41 = .ok (.getfield 10, 3) ∧ 41 + 3 = 44 := ⟨by decide +kernel, rfl⟩
theorem dX7_film_44 : decode cX7_film 44 = .ok (.iload_n 3, 1) ∧ 44 + 1 = 45 := ⟨by decide +kernel, rfl⟩
theorem dX7_film_45 : decode cX7_film 45 = .ok (.invokevirtual 183, 3) := by decide +kernel
theorem dX7_film_48 : decode cX7_film 48 = .ok (.invokevirtual 274, 3) := by decide +kernel
theorem dX7_film_51 : decode cX7_film 51 = .ok (.iinc 3 1, 3) ∧ 51 + 3 = 54 := ⟨by decide +kernel, rfl⟩
theorem dX7_film_54 : decode cX7_film 54 = .ok (.goto (-27), 3) ∧ ((54 : Nat) : Int) + (-27) = ((27 : Nat) : Int) := ⟨by decide +kernel, by decide⟩
theorem dX7_film_57 : decode cX7_film 57 = .ok (.aload_n 0, 1) ∧ 57 + 1 = 58 := ⟨by decide +kernel, rfl⟩
theorem dX7_film_58 : decode cX7_film 58 = .ok (.getfield 10, 3) ∧ 58 + 3 = 61 := ⟨by decide +kernel, rfl⟩
theorem dX7_film_61 : decode cX7_film 61 = .ok (.getfield 90, 3) ∧ 61 + 3 = 64 := ⟨by decide +kernel, rfl⟩
theorem dX7_film_64 : decode cX7_film 64 = .ok (.ireturn, 1) := by decide +kernel
def L_X7_film_27 (k27 : Hp → Int32 → Option (Int32 × Hp)) (fu : Nat) (o : Nat) (x2 : Option Nat) (S : Hp) (x3 : Int32) : Option (Int32 × Hp) :=
  (gR S (some o) 5 0).bind fun v29 =>
  (gI S v29 0 0).bind fun v32 =>
  if v32 ≤ x3 then
    (gR S (some o) 5 0).bind fun v58 =>
    (gI S v58 0 0).bind fun v61 =>
    some (v61, S)
  else
    (gR S (some o) 5 0).bind fun v41 =>
    (ob S 0 v41).bind fun o45 =>
    b2 (F_X0_beats fu S o45 x3) fun v45 S45 =>
    (ob S45 3 x2).bind fun o48 =>
    (F_X4_write S45 o48 x3 v45).bind fun S48 =>
    k27 S48 (x3 + (1 : Int32))
set_option maxRecDepth 100000 in
set_option maxHeartbeats 4000000 in
theorem wl_X7_film_27 {E : Cx} {l : Launch} {res : Int32 × Hp} {ad : Nat → Nat} {k27 : Hp → Int32 → Option (Int32 × Hp)} {fu : Nat} {o : Nat} {S : Hp} {x2 : Option Nat} {x3 : Int32} (K : Kx E cX7_film RX7 (rmd 5 0 0)) (X : Bx E l yX7_film 4 (some .int) 0 0 ad (QI res)) (hk27 : ∀ (S : Hp) (x3 : Int32), k27 S x3 = some res → J E 0 0 27 [(0, vR (some o)), (2, vR x2), (3, vI x3)] [] S ad) (h : L_X7_film_27 k27 fu o x2 S x3 = some res) : J E 0 0 27 [(0, vR (some o)), (2, vR x2), (3, vI x3)] [] S ad := by
  refine j_iload_n K dX7_film_27 rfl 2 rfl ?_
  refine j_aload_n K dX7_film_28 rfl 0 rfl ?_
  obtain ⟨v29, e29, h⟩ := bd h
  refine fgX7_10 K dX7_film_29 e29 ?_
  obtain ⟨v32, e32, h⟩ := bd h
  refine fgX7_90 K dX7_film_32 e32 ?_
  refine j_icmp_ge K dX7_film_35 (fun c35 => ?_) (fun c35 => ?_)
  · replace h := it c35 h
    refine j_aload_n K dX7_film_57 rfl 0 rfl ?_
    obtain ⟨v58, e58, h⟩ := bd h
    refine fgX7_10 K dX7_film_58 e58 ?_
    obtain ⟨v61, e61, h⟩ := bd h
    refine fgX7_90 K dX7_film_61 e61 ?_
    exact j_iret K X dX7_film_64 h
  · replace h := ie c35 h
    refine j_aload_n K dX7_film_38 rfl 1 rfl ?_
    refine j_iload_n K dX7_film_39 rfl 2 rfl ?_
    refine j_aload_n K dX7_film_40 rfl 0 rfl ?_
    obtain ⟨v41, e41, h⟩ := bd h
    refine fgX7_10 K dX7_film_41 e41 ?_
    refine j_iload_n K dX7_film_44 rfl 2 rfl ?_
    obtain ⟨o45, ew45, hz45⟩ := bd h
    obtain ⟨er45, ho45⟩ := ob_some ew45
    subst er45
    have h := hz45
    obtain ⟨v45, S45, e45, h⟩ := bd2 h
    refine j_cI (st := [vI x3, vR x2]) K (r_V (vs := [vI x3]) (n := 1) (o := o45) K (c_X0_beats e45) ho45 (by decide) rfl dX7_film_45 z517 z518 z519 z2 z520 ⟨zd_X0_beats, rfl, rfl, rfl, ⟨Nat.le_of_ble_eq_true rfl, Nat.le_of_ble_eq_true rfl⟩, Nat.le_of_ble_eq_true rfl, Nat.le_of_ble_eq_true rfl, Nat.le_of_ble_eq_true rfl⟩) rfl ?_
    obtain ⟨o48, ew48, hz48⟩ := bd h
    obtain ⟨er48, ho48⟩ := ob_some ew48
    subst er48
    have h := hz48
    obtain ⟨S48, e48, h⟩ := bd h
    refine j_cV (st := []) K (r_V (vs := [vI x3, vI v45]) (n := 2) (o := o48) K (c_X4_write e48) ho48 (by decide) rfl dX7_film_48 z732 z733 z734 z5 z735 ⟨zd_X4_write, rfl, rfl, rfl, ⟨Nat.le_of_ble_eq_true rfl, Nat.le_of_ble_eq_true rfl⟩, Nat.le_of_ble_eq_true rfl, Nat.le_of_ble_eq_true rfl, Nat.le_of_ble_eq_true rfl⟩) rfl ?_
    refine j_iinc (q := 2) (v := (x3 + (1 : Int32))) (lv' := [(3, vI (x3 + (1 : Int32))), (0, vR (some o)), (2, vR (some o48))]) K dX7_film_51 rfl rfl X.2.2.1 (by decide) rfl ?_
    refine j_goto K dX7_film_54 ?_
    exact j_sub [1, 2, 0] rfl (hk27 _ _ h)
def B_X7_film_27 (fu : Nat) (o : Nat) (x2 : Option Nat) : Nat → Hp → Int32 → Option (Int32 × Hp)
  | 0 => fun _ _ => none
  | n + 1 => L_X7_film_27 (B_X7_film_27 fu o x2 n) fu o x2
theorem w_X7_film_27 {E : Cx} {l : Launch} {res : Int32 × Hp} {ad : Nat → Nat} {fu : Nat} {o : Nat} {x2 : Option Nat} (K : Kx E cX7_film RX7 (rmd 5 0 0)) (X : Bx E l yX7_film 4 (some .int) 0 0 ad (QI res)) : ∀ (n : Nat) (S : Hp) (x3 : Int32), B_X7_film_27 fu o x2 n S x3 = some res → J E 0 0 27 [(0, vR (some o)), (2, vR x2), (3, vI x3)] [] S ad := by
  intro n
  induction n with
  | zero =>
    intro S x3 h
    cases h
  | succ n ih =>
    intro S x3 h
    exact wl_X7_film_27 K X ih h
def F_X7_film (fu : Nat) (S : Hp) (o : Nat) (x1 : Int32) : Option (Int32 × Hp) :=
  (ob S 5 (some o)).bind fun _ =>
  b2 (F_X7_sheetAt S o x1) fun v2 S2 =>
  if v2 = none then
    some ((-2 : Int32), S2)
  else
    (gR S2 (some o) 5 0).bind fun v16 =>
    (gI S2 v16 0 0).bind fun v19 =>
    (ob S2 3 v2).bind fun o22 =>
    (F_X4_lay fu S2 o22 (1 : Int32) v19).bind fun S22 =>
    B_X7_film_27 fu o (some o22) fu S22 (0 : Int32)
set_option maxRecDepth 100000 in
set_option maxHeartbeats 4000000 in
theorem w_X7_film {E : Cx} {l : Launch} {res : Int32 × Hp} {ad : Nat → Nat} {fu : Nat} {S : Hp} {o : Nat} {x1 : Int32} (K : Kx E cX7_film RX7 (rmd 5 0 0)) (X : Bx E l yX7_film 4 (some .int) 0 0 ad (QI res)) (h : F_X7_film fu S o x1 = some res) : J E 0 0 0 [(0, vR (some o)), (1, vI x1)] [] S ad := by
  refine j_aload_n K dX7_film_0 rfl 0 rfl ?_
  refine j_iload_n K dX7_film_1 rfl 1 rfl ?_
  obtain ⟨w2, ew2, h⟩ := bd h
  have ho2 := obS ew2
  obtain ⟨v2, S2, e2, h⟩ := bd2 h
  refine j_cR (st := []) K (r_V (vs := [vI x1]) (n := 1) (o := o) K (c_X7_sheetAt e2) ho2 (by decide) rfl dX7_film_2 z674 z676 zs21 z1 z677 ⟨zd_X7_sheetAt, rfl, rfl, rfl, ⟨Nat.le_of_ble_eq_true rfl, Nat.le_of_ble_eq_true rfl⟩, Nat.le_of_ble_eq_true rfl, Nat.le_of_ble_eq_true rfl, Nat.le_of_ble_eq_true rfl⟩) rfl ?_
  refine j_astore_n (lv' := [(2, vR v2), (0, vR (some o)), (1, vI x1)]) K dX7_film_5 rfl X.2.2.1 (by decide) rfl ?_
  refine j_aload_n K dX7_film_6 rfl 0 rfl ?_
  refine j_ifnonnull K dX7_film_7 (fun c7 => ?_) (fun c7 => ?_)
  · replace h := ie c7 h
    refine j_aload_n K dX7_film_13 rfl 0 rfl ?_
    refine j_iconst (v := (1 : Int32)) K dX7_film_14 (by decide) ?_
    refine j_aload_n K dX7_film_15 rfl 1 rfl ?_
    obtain ⟨v16, e16, h⟩ := bd h
    refine fgX7_10 K dX7_film_16 e16 ?_
    obtain ⟨v19, e19, h⟩ := bd h
    refine fgX7_90 K dX7_film_19 e19 ?_
    obtain ⟨o22, ew22, hz22⟩ := bd h
    obtain ⟨er22, ho22⟩ := ob_some ew22
    subst er22
    have h := hz22
    obtain ⟨S22, e22, h⟩ := bd h
    refine j_cV (st := []) K (r_V (vs := [vI (1 : Int32), vI v19]) (n := 2) (o := o22) K (c_X4_lay e22) ho22 (by decide) rfl dX7_film_22 z728 z729 z730 z5 z731 ⟨zd_X4_lay, rfl, rfl, rfl, ⟨Nat.le_of_ble_eq_true rfl, Nat.le_of_ble_eq_true rfl⟩, Nat.le_of_ble_eq_true rfl, Nat.le_of_ble_eq_true rfl, Nat.le_of_ble_eq_true rfl⟩) rfl ?_
    refine j_iconst (v := (0 : Int32)) K dX7_film_25 (by decide) ?_
    refine j_istore_n (lv' := [(3, vI (0 : Int32)), (2, vR (some o22)), (0, vR (some o)), (1, vI x1)]) K dX7_film_26 rfl X.2.2.1 (by decide) rfl ?_
    exact j_sub [2, 1, 0] rfl (w_X7_film_27 K X _ _ _ h)
  · replace h := it c7 h
    refine j_bipush (v := (-2 : Int32)) K dX7_film_10 (by decide) ?_
    exact j_iret K X dX7_film_12 h
theorem c_X7_film {l : Launch} {fu : Nat} {S : Hp} {o : Nat} {x1 : Int32} {res : Int32 × Hp} (h : F_X7_film fu S o x1 = some res) : Ct l yX7_film cX7_film 4 (some .int) (rmd 5 0 0) 0 0 [vR (some o), vI x1] S (QI res) :=
  z_entry (by decide +kernel) (Nat.le_of_ble_eq_true rfl) (fun E ad K X => w_X7_film K X h)

theorem dX7_drawn_0 : decode cX7_drawn 0 = .ok (.iload_n 1, 1) ∧ 0 + 1 = 1 := ⟨by decide +kernel, rfl⟩
theorem dX7_drawn_1 : decode cX7_drawn 1 = .ok (.ldc_w 277, 3) ∧ 1 + 3 = 4 := ⟨by decide +kernel, rfl⟩
theorem dX7_drawn_4 : decode cX7_drawn 4 = .ok (.invokestatic 135, 3) := by decide +kernel
theorem dX7_drawn_7 : decode cX7_drawn 7 = .ok (.ifCond .eq 10, 3) ∧ 7 + 3 = 10 ∧ ((7 : Nat) : Int) + (10) = ((17 : Nat) : Int) := ⟨by decide +kernel, rfl, by decide⟩
theorem dX7_drawn_10 : decode cX7_drawn 10 = .ok (.iload_n 2, 1) ∧ 10 + 1 = 11 := ⟨by decide +kernel, rfl⟩
theorem dX7_drawn_11 : decode cX7_drawn 11 = .ok (.invokestatic 155, 3) := by decide +kernel
theorem dX7_drawn_14 : decode cX7_drawn 14 = .ok (.ifCond .ne 6, 3) ∧ 14 + 3 = 17 ∧ ((14 : Nat) : Int) + (6) = ((20 : Nat) : Int) := ⟨by decide +kernel, rfl, by decide⟩
theorem dX7_drawn_17 : decode cX7_drawn 17 = .ok (.bipush (-2), 2) ∧ 17 + 2 = 19 := ⟨by decide +kernel, rfl⟩
theorem dX7_drawn_19 : decode cX7_drawn 19 = .ok (.ireturn, 1) := by decide +kernel
theorem dX7_drawn_20 : decode cX7_drawn 20 = .ok (.aload_n 0, 1) ∧ 20 + 1 = 21 := ⟨by decide +kernel, rfl⟩
theorem dX7_drawn_21 : decode cX7_drawn 21 = .ok (.getfield 16, 3) ∧ 21 + 3 = 24 := ⟨by decide +kernel, rfl⟩
theorem dX7_drawn_24 : decode cX7_drawn 24 = .ok (.aload_n 0, 1) ∧ 24 + 1 = 25 := ⟨by decide +kernel, rfl⟩
theorem dX7_drawn_25 : decode cX7_drawn 25 = .ok (.getfield 10, 3) ∧ 25 + 3 = 28 := ⟨by decide +kernel, rfl⟩
theorem dX7_drawn_28 : decode cX7_drawn 28 = .ok (.invokevirtual 230, 3) := by decide +kernel
theorem dX7_drawn_31 : decode cX7_drawn 31 = .ok (.aload_n 0, 1) ∧ 31 + 1 = 32 := ⟨by decide +kernel, rfl⟩
theorem dX7_drawn_32 : decode cX7_drawn 32 = .ok (.getfield 16, 3) ∧ 32 + 3 = 35 := ⟨by decide +kernel, rfl⟩
theorem dX7_drawn_35 : decode cX7_drawn 35 = .ok (.iload_n 1, 1) ∧ 35 + 1 = 36 := ⟨by decide +kernel, rfl⟩
theorem dX7_drawn_36 : decode cX7_drawn 36 = .ok (.invokevirtual 278, 3) := by decide +kernel
theorem dX7_drawn_39 : decode cX7_drawn 39 = .ok (.iload_n 2, 1) ∧ 39 + 1 = 40 := ⟨by decide +kernel, rfl⟩
theorem dX7_drawn_40 : decode cX7_drawn 40 = .ok (.ifCond .ne 13, 3) ∧ 40 + 3 = 43 ∧ ((40 : Nat) : Int) + (13) = ((53 : Nat) : Int) := ⟨by decide +kernel, rfl, by decide⟩
theorem dX7_drawn_43 : decode cX7_drawn 43 = .ok (.aload_n 0, 1) ∧ 43 + 1 = 44 := ⟨by decide +kernel, rfl⟩
theorem dX7_drawn_44 : decode cX7_drawn 44 = .ok (.getfield 16, 3) ∧ 44 + 3 = 47 := ⟨by decide +kernel, rfl⟩
theorem dX7_drawn_47 : decode cX7_drawn 47 = .ok (.invokevirtual 281, 3) := by decide +kernel
theorem dX7_drawn_50 : decode cX7_drawn 50 = .ok (.goto 10, 3) ∧ ((50 : Nat) : Int) + (10) = ((60 : Nat) : Int) := ⟨by decide +kernel, by decide⟩
theorem dX7_drawn_53 : decode cX7_drawn 53 = .ok (.aload_n 0, 1) ∧ 53 + 1 = 54 := ⟨by decide +kernel, rfl⟩
theorem dX7_drawn_54 : decode cX7_drawn 54 = .ok (.getfield 16, 3) ∧ 54 + 3 = 57 := ⟨by decide +kernel, rfl⟩
theorem dX7_drawn_57 : decode cX7_drawn 57 = .ok (.invokevirtual 199, 3) := by decide +kernel
theorem dX7_drawn_60 : decode cX7_drawn 60 = .ok (.ireturn, 1) := by decide +kernel
def B_X7_drawn_17 (fu : Nat) (o : Nat) (S : Hp) : Option (Int32 × Hp) :=
  some ((-2 : Int32), S)
set_option maxRecDepth 100000 in
set_option maxHeartbeats 4000000 in
theorem w_X7_drawn_17 {E : Cx} {l : Launch} {res : Int32 × Hp} {ad : Nat → Nat} {fu : Nat} {o : Nat} {S : Hp} (K : Kx E cX7_drawn RX7 (rmd 6 0 0)) (X : Bx E l yX7_drawn 3 (some .int) 0 0 ad (QI res)) (h : B_X7_drawn_17 fu o S = some res) : J E 0 0 17 [] [] S ad := by
  refine j_bipush (v := (-2 : Int32)) K dX7_drawn_17 (by decide) ?_
  exact j_iret K X dX7_drawn_19 h
def B_X7_drawn_60 (fu : Nat) (o : Nat) (S : Hp) (s0 : Int32) : Option (Int32 × Hp) :=
  some (s0, S)
set_option maxRecDepth 100000 in
set_option maxHeartbeats 4000000 in
theorem w_X7_drawn_60 {E : Cx} {l : Launch} {res : Int32 × Hp} {ad : Nat → Nat} {fu : Nat} {o : Nat} {S : Hp} {s0 : Int32} (K : Kx E cX7_drawn RX7 (rmd 6 0 0)) (X : Bx E l yX7_drawn 3 (some .int) 0 0 ad (QI res)) (h : B_X7_drawn_60 fu o S s0 = some res) : J E 0 0 60 [] [vI s0] S ad := by
  exact j_iret K X dX7_drawn_60 h
def F_X7_drawn (fu : Nat) (S : Hp) (o : Nat) (x1 : Int32) (x2 : Int32) : Option (Int32 × Hp) :=
  b2 (F_X7_fits S x1 (100000 : Int32)) fun v4 S4 =>
  if v4 = 0 then
    B_X7_drawn_17 fu o S4
  else
    b2 (F_X7_isZeroOrOne S4 x2) fun v11 S11 =>
    if v11 = 0 then
      B_X7_drawn_17 fu o S11
    else
      (gR S11 (some o) 5 1).bind fun v21 =>
      (gR S11 (some o) 5 0).bind fun v25 =>
      (ob S11 0 v21).bind fun o28 =>
      (F_X0_takeFrom fu S11 o28 v25).bind fun S28 =>
      (gR S28 (some o) 5 1).bind fun v32 =>
      (ob S28 0 v32).bind fun o36 =>
      (F_X0_draw fu S28 o36 x1).bind fun S36 =>
      if x2 = 0 then
        (gR S36 (some o) 5 1).bind fun v44 =>
        (ob S36 0 v44).bind fun o47 =>
        b2 (F_X0_caught fu S36 o47) fun v47 S47 =>
        B_X7_drawn_60 fu o S47 v47
      else
        (gR S36 (some o) 5 1).bind fun v54 =>
        (ob S36 0 v54).bind fun o57 =>
        b2 (F_X0_beatsOfAll fu S36 o57) fun v57 S57 =>
        B_X7_drawn_60 fu o S57 v57
set_option maxRecDepth 100000 in
set_option maxHeartbeats 4000000 in
theorem w_X7_drawn {E : Cx} {l : Launch} {res : Int32 × Hp} {ad : Nat → Nat} {fu : Nat} {S : Hp} {o : Nat} {x1 : Int32} {x2 : Int32} (K : Kx E cX7_drawn RX7 (rmd 6 0 0)) (X : Bx E l yX7_drawn 3 (some .int) 0 0 ad (QI res)) (h : F_X7_drawn fu S o x1 x2 = some res) : J E 0 0 0 [(0, vR (some o)), (1, vI x1), (2, vI x2)] [] S ad := by
  refine j_iload_n K dX7_drawn_0 rfl 1 rfl ?_
  refine j_ldcw K dX7_drawn_1 z741 ?_
  obtain ⟨v4, S4, e4, h⟩ := bd2 h
  refine j_cI (st := []) K (r_S (vs := [vI x1, vI (100000 : Int32)]) (n := 2) K (c_X7_fits e4) dX7_drawn_4 z444 z425 z1 z426 ⟨zd_X7_fits, rfl, rfl, rfl, ⟨Nat.le_of_ble_eq_true rfl, Nat.le_of_ble_eq_true rfl⟩, Nat.le_of_ble_eq_true rfl, Nat.le_of_ble_eq_true rfl, Nat.le_of_ble_eq_true rfl⟩) rfl ?_
  refine j_if_eq K dX7_drawn_7 (fun c7 => ?_) (fun c7 => ?_)
  · replace h := it c7 h
    exact j_sub [] rfl (w_X7_drawn_17 K X h)
  · replace h := ie c7 h
    refine j_iload_n K dX7_drawn_10 rfl 2 rfl ?_
    obtain ⟨v11, S11, e11, h⟩ := bd2 h
    refine j_cI (st := []) K (r_S (vs := [vI x2]) (n := 1) K (c_X7_isZeroOrOne e11) dX7_drawn_11 z497 z498 z1 z499 ⟨zd_X7_isZeroOrOne, rfl, rfl, rfl, ⟨Nat.le_of_ble_eq_true rfl, Nat.le_of_ble_eq_true rfl⟩, Nat.le_of_ble_eq_true rfl, Nat.le_of_ble_eq_true rfl, Nat.le_of_ble_eq_true rfl⟩) rfl ?_
    refine j_if_ne K dX7_drawn_14 (fun c14 => ?_) (fun c14 => ?_)
    · replace h := ie c14 h
      refine j_aload_n K dX7_drawn_20 rfl 0 rfl ?_
      obtain ⟨v21, e21, h⟩ := bd h
      refine fgX7_16 K dX7_drawn_21 e21 ?_
      refine j_aload_n K dX7_drawn_24 rfl 0 rfl ?_
      obtain ⟨v25, e25, h⟩ := bd h
      refine fgX7_10 K dX7_drawn_25 e25 ?_
      obtain ⟨o28, ew28, hz28⟩ := bd h
      obtain ⟨er28, ho28⟩ := ob_some ew28
      subst er28
      have h := hz28
      obtain ⟨S28, e28, h⟩ := bd h
      refine j_cV (st := []) K (r_V (vs := [vR v25]) (n := 1) (o := o28) K (c_X0_takeFrom e28) ho28 (by decide) rfl dX7_drawn_28 z622 z623 z624 z2 z625 ⟨zd_X0_takeFrom, rfl, rfl, rfl, ⟨Nat.le_of_ble_eq_true rfl, Nat.le_of_ble_eq_true rfl⟩, Nat.le_of_ble_eq_true rfl, Nat.le_of_ble_eq_true rfl, Nat.le_of_ble_eq_true rfl⟩) rfl ?_
      refine j_aload_n K dX7_drawn_31 rfl 0 rfl ?_
      obtain ⟨v32, e32, h⟩ := bd h
      refine fgX7_16 K dX7_drawn_32 e32 ?_
      refine j_iload_n K dX7_drawn_35 rfl 1 rfl ?_
      obtain ⟨o36, ew36, hz36⟩ := bd h
      obtain ⟨er36, ho36⟩ := ob_some ew36
      subst er36
      have h := hz36
      obtain ⟨S36, e36, h⟩ := bd h
      refine j_cV (st := []) K (r_V (vs := [vI x1]) (n := 1) (o := o36) K (c_X0_draw e36) ho36 (by decide) rfl dX7_drawn_36 z742 z743 z744 z2 z745 ⟨zd_X0_draw, rfl, rfl, rfl, ⟨Nat.le_of_ble_eq_true rfl, Nat.le_of_ble_eq_true rfl⟩, Nat.le_of_ble_eq_true rfl, Nat.le_of_ble_eq_true rfl, Nat.le_of_ble_eq_true rfl⟩) rfl ?_
      refine j_iload_n K dX7_drawn_39 rfl 2 rfl ?_
      refine j_if_ne K dX7_drawn_40 (fun c40 => ?_) (fun c40 => ?_)
      · replace h := ie c40 h
        refine j_aload_n K dX7_drawn_53 rfl 0 rfl ?_
        obtain ⟨v54, e54, h⟩ := bd h
        refine fgX7_16 K dX7_drawn_54 e54 ?_
        obtain ⟨o57, ew57, hz57⟩ := bd h
        obtain ⟨er57, ho57⟩ := ob_some ew57
        subst er57
        have h := hz57
        obtain ⟨v57, S57, e57, h⟩ := bd2 h
        refine j_cI (st := []) K (r_V (vs := []) (n := 0) (o := o57) K (c_X0_beatsOfAll e57) ho57 (by decide) rfl dX7_drawn_57 z553 z554 z555 z2 z556 ⟨zd_X0_beatsOfAll, rfl, rfl, rfl, ⟨Nat.le_of_ble_eq_true rfl, Nat.le_of_ble_eq_true rfl⟩, Nat.le_of_ble_eq_true rfl, Nat.le_of_ble_eq_true rfl, Nat.le_of_ble_eq_true rfl⟩) rfl ?_
        exact j_sub [] rfl (w_X7_drawn_60 K X h)
      · replace h := it c40 h
        refine j_aload_n K dX7_drawn_43 rfl 0 rfl ?_
        obtain ⟨v44, e44, h⟩ := bd h
        refine fgX7_16 K dX7_drawn_44 e44 ?_
        obtain ⟨o47, ew47, hz47⟩ := bd h
        obtain ⟨er47, ho47⟩ := ob_some ew47
        subst er47
        have h := hz47
        obtain ⟨v47, S47, e47, h⟩ := bd2 h
        refine j_cI (st := []) K (r_V (vs := []) (n := 0) (o := o47) K (c_X0_caught e47) ho47 (by decide) rfl dX7_drawn_47 z750 z751 z752 z2 z753 ⟨zd_X0_caught, rfl, rfl, rfl, ⟨Nat.le_of_ble_eq_true rfl, Nat.le_of_ble_eq_true rfl⟩, Nat.le_of_ble_eq_true rfl, Nat.le_of_ble_eq_true rfl, Nat.le_of_ble_eq_true rfl⟩) rfl ?_
        refine j_goto K dX7_drawn_50 ?_
        exact j_sub [] rfl (w_X7_drawn_60 K X h)
    · replace h := it c14 h
      exact j_sub [] rfl (w_X7_drawn_17 K X h)
theorem c_X7_drawn {l : Launch} {fu : Nat} {S : Hp} {o : Nat} {x1 : Int32} {x2 : Int32} {res : Int32 × Hp} (h : F_X7_drawn fu S o x1 x2 = some res) : Ct l yX7_drawn cX7_drawn 3 (some .int) (rmd 6 0 0) 0 0 [vR (some o), vI x1, vI x2] S (QI res) :=
  z_entry (by decide +kernel) (Nat.le_of_ble_eq_true rfl) (fun E ad K X => w_X7_drawn K X h)

theorem dX7_odds_0 : decode cX7_odds 0 = .ok (.iload_n 1, 1) ∧ 0 + 1 = 1 := ⟨by decide +kernel, rfl⟩
theorem dX7_odds_1 : decode cX7_odds 1 = .ok (.ldc_w 277, 3) ∧ 1 + 3 = 4 := ⟨by decide +kernel, rfl⟩
theorem dX7_odds_4 : decode cX7_odds 4 = .ok (.invokestatic 135, 3) := by decide +kernel
theorem dX7_odds_7 : decode cX7_odds 7 = .ok (.ifCond .eq 18, 3) ∧ 7 + 3 = 10 ∧ ((7 : Nat) : Int) + (18) = ((25 : Nat) : Int) := ⟨by decide +kernel, rfl, by decide⟩
theorem dX7_odds_10 : decode cX7_odds 10 = .ok (.iload_n 2, 1) ∧ 10 + 1 = 11 := ⟨by decide +kernel, rfl⟩
theorem dX7_odds_11 : decode cX7_odds 11 = .ok (.iconst 1, 1) ∧ 11 + 1 = 12 := ⟨by decide +kernel, rfl⟩
theorem dX7_odds_12 : decode cX7_odds 12 = .ok (.if_icmp .lt 13, 3) ∧ 12 + 3 = 15 ∧ ((12 : Nat) : Int) + (13) = ((25 : Nat) : Int) := ⟨by decide +kernel, rfl, by decide⟩
theorem dX7_odds_15 : decode cX7_odds 15 = .ok (.iload_n 2, 1) ∧ 15 + 1 = 16 := ⟨by decide +kernel, rfl⟩
theorem dX7_odds_16 : decode cX7_odds 16 = .ok (.bipush 40, 2) ∧ 16 + 2 = 18 := ⟨by decide +kernel, rfl⟩
theorem dX7_odds_18 : decode cX7_odds 18 = .ok (.if_icmp .gt 7, 3) ∧ 18 + 3 = 21 ∧ ((18 : Nat) : Int) + (7) = ((25 : Nat) : Int) := ⟨by decide +kernel, rfl, by decide⟩
theorem dX7_odds_21 : decode cX7_odds 21 = .ok (.iconst 1, 1) ∧ 21 + 1 = 22 := ⟨by decide +kernel, rfl⟩
theorem dX7_odds_22 : decode cX7_odds 22 = .ok (.goto 4, 3) ∧ ((22 : Nat) : Int) + (4) = ((26 : Nat) : Int) := ⟨by decide +kernel, by decide⟩
theorem dX7_odds_25 : decode cX7_odds 25 = .ok (.iconst 0, 1) ∧ 25 + 1 = 26 := ⟨by decide +kernel, rfl⟩
theorem dX7_odds_26 : decode cX7_odds 26 = .ok (.istore 5, 2) ∧ 26 + 2 = 28 := ⟨by decide +kernel, rfl⟩
theorem dX7_odds_28 : decode cX7_odds 28 = .ok (.iload 5, 2) ∧ 28 + 2 = 30 := ⟨by decide +kernel, rfl⟩
theorem dX7_odds_30 : decode cX7_odds 30 = .ok (.ifCond .eq 22, 3) ∧ 30 + 3 = 33 ∧ ((30 : Nat) : Int) + (22) = ((52 : Nat) : Int) := ⟨by decide +kernel, rfl, by decide⟩
theorem dX7_odds_33 : decode cX7_odds 33 = .ok (.aload_n 0, 1) ∧ 33 + 1 = 34 := ⟨by decide +kernel, rfl⟩
theorem dX7_odds_34 : decode cX7_odds 34 = .ok (.getfield 10, 3) ∧ 34 + 3 = 37 := ⟨by decide +kernel, rfl⟩
theorem dX7_odds_37 : decode cX7_odds 37 = .ok (.iload_n 3, 1) ∧ 37 + 1 = 38 := ⟨by decide +kernel, rfl⟩
theorem dX7_odds_38 : decode cX7_odds 38 = .ok (.invokevirtual 143, 3) := by decide +kernel
theorem dX7_odds_41 : decode cX7_odds 41 = .ok (.ifCond .eq 11, 3) ∧ 41 + 3 = 44 ∧ ((41 : Nat) : Int) + (11) = ((52 : Nat) : Int) := ⟨by decide +kernel, rfl, by decide⟩
theorem dX7_odds_44 : decode cX7_odds 44 = .ok (.iload 4, 2) ∧ 44 + 2 = 46 := ⟨by decide +kernel, rfl⟩
theorem dX7_odds_46 : decode cX7_odds 46 = .ok (.invokestatic 155, 3) := by decide +kernel
theorem dX7_odds_49 : decode cX7_odds 49 = .ok (.ifCond .ne 7, 3) ∧ 49 + 3 = 52 ∧ ((49 : Nat) : Int) + (7) = ((56 : Nat) : Int) := ⟨by decide +kernel, rfl, by decide⟩
theorem dX7_odds_52 : decode cX7_odds 52 = .ok (.ldc2_w 246, 3) ∧ 52 + 3 = 55 := ⟨by decide +kernel, rfl⟩
theorem dX7_odds_55 : decode cX7_odds 55 = .ok (.lreturn, 1) := by decide +kernel
theorem dX7_odds_56 : decode cX7_odds 56 = .ok (.aload_n 0, 1) ∧ 56 + 1 = 57 := ⟨by decide +kernel, rfl⟩
theorem dX7_odds_57 : decode cX7_odds 57 = .ok (.getfield 16, 3) ∧ 57 + 3 = 60 := ⟨by decide +kernel, rfl⟩
theorem dX7_odds_60 : decode cX7_odds 60 = .ok (.aload_n 0, 1) ∧ 60 + 1 = 61 := ⟨by decide +kernel, rfl⟩
theorem dX7_odds_61 : decode cX7_odds 61 = .ok (.getfield 10, 3) ∧ 61 + 3 = 64 := ⟨by decide +kernel, rfl⟩
theorem dX7_odds_64 : decode cX7_odds 64 = .ok (.invokevirtual 230, 3) := by decide +kernel
theorem dX7_odds_67 : decode cX7_odds 67 = .ok (.iconst 0, 1) ∧ 67 + 1 = 68 := ⟨by decide +kernel, rfl⟩
theorem dX7_odds_68 : decode cX7_odds 68 = .ok (.istore 6, 2) ∧ 68 + 2 = 70 := ⟨by decide +kernel, rfl⟩
theorem dX7_odds_70 : decode cX7_odds 70 = .ok (.iconst 0, 1) ∧ 70 + 1 = 71 := ⟨by decide +kernel, rfl⟩
theorem dX7_odds_71 : decode cX7_odds 71 = .ok (.istore 7, 2) ∧ 71 + 2 = 73 := ⟨by decide +kernel, rfl⟩
theorem dX7_odds_73 : decode cX7_odds 73 = .ok (.iload 7, 2) ∧ 73 + 2 = 75 := ⟨by decide +kernel, rfl⟩
theorem dX7_odds_75 : decode cX7_odds 75 = .ok (.iload_n 2, 1) ∧ 75 + 1 = 76 := ⟨by decide +kernel, rfl⟩
theorem dX7_odds_76 : decode cX7_odds 76 = .ok (.if_icmp .ge 49, 3) ∧ 76 + 3 = 79 ∧ ((76 : Nat) : Int) + (49) = ((125 : Nat) : Int) := ⟨by decide +kernel, rfl, by decide⟩
theorem dX7_odds_79 : decode cX7_odds 79 = .ok (.aload_n 0, 1) ∧ 79 + 1 = 80 := ⟨by decide +kernel, rfl⟩
theorem dX7_odds_80 : decode cX7_odds 80 = .ok (.getfield 16, 3) ∧ 80 + 3 = 83 := ⟨by decide +kernel, rfl⟩
theorem dX7_odds_83 : decode cX7_odds 83 = .ok (.iload_n 1, 1) ∧ 83 + 1 = 84 := ⟨by decide +kernel, rfl⟩
theorem dX7_odds_84 : decode cX7_odds 84 = .ok (.iload 7, 2) ∧ 84 + 2 = 86 := ⟨by decide +kernel, rfl⟩
theorem dX7_odds_86 : decode cX7_odds 86 = .ok (.iadd, 1) ∧ 86 + 1 = 87 := ⟨by decide +kernel, rfl⟩
theorem dX7_odds_87 : decode cX7_odds 87 = .ok (.invokevirtual 278, 3) := by decide +kernel
theorem dX7_odds_90 : decode cX7_odds 90 = .ok (.aload_n 0, 1) ∧ 90 + 1 = 91 := ⟨by decide +kernel, rfl⟩
theorem dX7_odds_91 : decode cX7_odds 91 = .ok (.getfield 16, 3) ∧ 91 + 3 = 94 := ⟨by decide +kernel, rfl⟩
theorem dX7_odds_94 : decode cX7_odds 94 = .ok (.iload_n 3, 1) ∧ 94 + 1 = 95 := ⟨by decide +kernel, rfl⟩
theorem dX7_odds_95 : decode cX7_odds 95 = .ok (.invokevirtual 186, 3) := by decide +kernel
theorem dX7_odds_98 : decode cX7_odds 98 = .ok (.aload_n 0, 1) ∧ 98 + 1 = 99 := ⟨by decide +kernel, rfl⟩
theorem dX7_odds_99 : decode cX7_odds 99 = .ok (.getfield 16, 3) ∧ 99 + 3 = 102 := ⟨by decide +kernel, rfl⟩
theorem dX7_odds_102 : decode cX7_odds 102 = .ok (.aload_n 0, 1) ∧ 102 + 1 = 103 := ⟨by decide +kernel, rfl⟩
theorem dX7_odds_103 : decode cX7_odds 103 = .ok (.getfield 16, 3) ∧ 103 + 3 = 106 := ⟨by decide +kernel, rfl⟩
theorem dX7_odds_106 : decode cX7_odds 106 = .ok (.iload_n 3, 1) ∧ 106 + 1 = 107 := ⟨by decide +kernel, rfl⟩
theorem dX7_odds_107 : decode cX7_odds 107 = .ok (.invokevirtual 183, 3) := by decide +kernel
theorem dX7_odds_110 : decode cX7_odds 110 = .ok (.invokevirtual 189, 3) := by decide +kernel
theorem dX7_odds_113 : decode cX7_odds 113 = .ok (.ifCond .eq 6, 3) ∧ 113 + 3 = 116 ∧ ((113 : Nat) : Int) + (6) = ((119 : Nat) : Int) := ⟨by decide +kernel, rfl, by decide⟩
theorem dX7_odds_116 : decode cX7_odds 116 = .ok (.iinc 6 1, 3) ∧ 116 + 3 = 119 := ⟨by decide +kernel, rfl⟩
theorem dX7_odds_119 : decode cX7_odds 119 = .ok (.iinc 7 1, 3) ∧ 119 + 3 = 122 := ⟨by decide +kernel, rfl⟩
theorem dX7_odds_122 : decode cX7_odds 122 = .ok (.goto (-49), 3) ∧ ((122 : Nat) : Int) + (-49) = ((73 : Nat) : Int) := ⟨by decide +kernel, by decide⟩
theorem dX7_odds_125 : decode cX7_odds 125 = .ok (.iload 6, 2) ∧ 125 + 2 = 127 := ⟨by decide +kernel, rfl⟩
theorem dX7_odds_127 : decode cX7_odds 127 = .ok (.iload_n 2, 1) ∧ 127 + 1 = 128 := ⟨by decide +kernel, rfl⟩
theorem dX7_odds_128 : decode cX7_odds 128 = .ok (.iload 4, 2) ∧ 128 + 2 = 130 := ⟨by decide +kernel, rfl⟩
theorem dX7_odds_130 : decode cX7_odds 130 = .ok (.invokestatic 248, 3) := by decide +kernel
theorem dX7_odds_133 : decode cX7_odds 133 = .ok (.lreturn, 1) := by decide +kernel
def B_X7_odds_52 (fu : Nat) (o : Nat) (S : Hp) : Option (Int64 × Hp) :=
  some ((-4611686018427387904 : Int64), S)
set_option maxRecDepth 100000 in
set_option maxHeartbeats 4000000 in
theorem w_X7_odds_52 {E : Cx} {l : Launch} {res : Int64 × Hp} {ad : Nat → Nat} {fu : Nat} {o : Nat} {S : Hp} (K : Kx E cX7_odds RX7 (rmd 5 0 0)) (X : Bx E l yX7_odds 8 (some .long) 0 0 ad (QL res)) (h : B_X7_odds_52 fu o S = some res) : J E 0 0 52 [] [] S ad := by
  refine j_ldc2 K dX7_odds_52 z659 ?_
  exact j_lret K X dX7_odds_55 h
def B_X7_odds_119 (k73 : Hp → Int32 → Int32 → Option (Int64 × Hp)) (fu : Nat) (o : Nat) (S : Hp) (x1 : Int32) (x2 : Int32) (x3 : Int32) (x4 : Int32) (x6 : Int32) (x7 : Int32) : Option (Int64 × Hp) :=
  k73 S x6 (x7 + (1 : Int32))
set_option maxRecDepth 100000 in
set_option maxHeartbeats 4000000 in
theorem w_X7_odds_119 {E : Cx} {l : Launch} {res : Int64 × Hp} {ad : Nat → Nat} {k73 : Hp → Int32 → Int32 → Option (Int64 × Hp)} {fu : Nat} {o : Nat} {S : Hp} {x1 : Int32} {x2 : Int32} {x3 : Int32} {x4 : Int32} {x6 : Int32} {x7 : Int32} (K : Kx E cX7_odds RX7 (rmd 5 0 0)) (X : Bx E l yX7_odds 8 (some .long) 0 0 ad (QL res)) (hk73 : ∀ (S : Hp) (x6 : Int32) (x7 : Int32), k73 S x6 x7 = some res → J E 0 0 73 [(0, vR (some o)), (1, vI x1), (2, vI x2), (3, vI x3), (4, vI x4), (6, vI x6), (7, vI x7)] [] S ad) (h : B_X7_odds_119 k73 fu o S x1 x2 x3 x4 x6 x7 = some res) : J E 0 0 119 [(0, vR (some o)), (1, vI x1), (2, vI x2), (3, vI x3), (4, vI x4), (6, vI x6), (7, vI x7)] [] S ad := by
  refine j_iinc (q := 6) (v := (x7 + (1 : Int32))) (lv' := [(7, vI (x7 + (1 : Int32))), (0, vR (some o)), (1, vI x1), (2, vI x2), (3, vI x3), (4, vI x4), (6, vI x6)]) K dX7_odds_119 rfl rfl X.2.2.1 (by decide) rfl ?_
  refine j_goto K dX7_odds_122 ?_
  exact j_sub [1, 2, 3, 4, 5, 6, 0] rfl (hk73 _ _ _ h)
def L_X7_odds_73 (k73 : Hp → Int32 → Int32 → Option (Int64 × Hp)) (fu : Nat) (o : Nat) (x1 : Int32) (x2 : Int32) (x3 : Int32) (x4 : Int32) (S : Hp) (x6 : Int32) (x7 : Int32) : Option (Int64 × Hp) :=
  if x2 ≤ x7 then
    b2 (F_X7_inLowestTerms fu S x6 x2 x4) fun v130 S130 =>
    some (v130, S130)
  else
    (gR S (some o) 5 1).bind fun v80 =>
    (ob S 0 v80).bind fun o87 =>
    (F_X0_draw fu S o87 (x1 + x7)).bind fun S87 =>
    (gR S87 (some o) 5 1).bind fun v91 =>
    (ob S87 0 v91).bind fun o95 =>
    (F_X0_look fu S87 o95 x3).bind fun S95 =>
    (gR S95 (some o) 5 1).bind fun v99 =>
    (gR S95 (some o) 5 1).bind fun v103 =>
    (ob S95 0 v103).bind fun o107 =>
    b2 (F_X0_beats fu S95 o107 x3) fun v107 S107 =>
    (ob S107 0 v99).bind fun o110 =>
    b2 (F_X0_catchersAt fu S107 o110 v107) fun v110 S110 =>
    if v110 = 0 then
      B_X7_odds_119 k73 fu o S110 x1 x2 x3 x4 x6 x7
    else
      B_X7_odds_119 k73 fu o S110 x1 x2 x3 x4 (x6 + (1 : Int32)) x7
set_option maxRecDepth 100000 in
set_option maxHeartbeats 4000000 in
theorem wl_X7_odds_73 {E : Cx} {l : Launch} {res : Int64 × Hp} {ad : Nat → Nat} {k73 : Hp → Int32 → Int32 → Option (Int64 × Hp)} {fu : Nat} {o : Nat} {S : Hp} {x1 : Int32} {x2 : Int32} {x3 : Int32} {x4 : Int32} {x6 : Int32} {x7 : Int32} (K : Kx E cX7_odds RX7 (rmd 5 0 0)) (X : Bx E l yX7_odds 8 (some .long) 0 0 ad (QL res)) (hk73 : ∀ (S : Hp) (x6 : Int32) (x7 : Int32), k73 S x6 x7 = some res → J E 0 0 73 [(0, vR (some o)), (1, vI x1), (2, vI x2), (3, vI x3), (4, vI x4), (6, vI x6), (7, vI x7)] [] S ad) (h : L_X7_odds_73 k73 fu o x1 x2 x3 x4 S x6 x7 = some res) : J E 0 0 73 [(0, vR (some o)), (1, vI x1), (2, vI x2), (3, vI x3), (4, vI x4), (6, vI x6), (7, vI x7)] [] S ad := by
  refine j_iload K dX7_odds_73 6 rfl ?_
  refine j_iload_n K dX7_odds_75 rfl 2 rfl ?_
  refine j_icmp_ge K dX7_odds_76 (fun c76 => ?_) (fun c76 => ?_)
  · replace h := it c76 h
    refine j_iload K dX7_odds_125 5 rfl ?_
    refine j_iload_n K dX7_odds_127 rfl 2 rfl ?_
    refine j_iload K dX7_odds_128 4 rfl ?_
    obtain ⟨v130, S130, e130, h⟩ := bd2 h
    refine j_cL (st := []) K (r_S (vs := [vI x6, vI x2, vI x4]) (n := 3) K (c_X7_inLowestTerms e130) dX7_odds_130 z660 z661 z1 z662 ⟨zd_X7_inLowestTerms, rfl, rfl, rfl, ⟨Nat.le_of_ble_eq_true rfl, Nat.le_of_ble_eq_true rfl⟩, Nat.le_of_ble_eq_true rfl, Nat.le_of_ble_eq_true rfl, Nat.le_of_ble_eq_true rfl⟩) rfl ?_
    exact j_lret K X dX7_odds_133 h
  · replace h := ie c76 h
    refine j_aload_n K dX7_odds_79 rfl 0 rfl ?_
    obtain ⟨v80, e80, h⟩ := bd h
    refine fgX7_16 K dX7_odds_80 e80 ?_
    refine j_iload_n K dX7_odds_83 rfl 1 rfl ?_
    refine j_iload K dX7_odds_84 6 rfl ?_
    refine j_iadd K dX7_odds_86 ?_
    obtain ⟨o87, ew87, hz87⟩ := bd h
    obtain ⟨er87, ho87⟩ := ob_some ew87
    subst er87
    have h := hz87
    obtain ⟨S87, e87, h⟩ := bd h
    refine j_cV (st := []) K (r_V (vs := [vI (x1 + x7)]) (n := 1) (o := o87) K (c_X0_draw e87) ho87 (by decide) rfl dX7_odds_87 z742 z743 z744 z2 z745 ⟨zd_X0_draw, rfl, rfl, rfl, ⟨Nat.le_of_ble_eq_true rfl, Nat.le_of_ble_eq_true rfl⟩, Nat.le_of_ble_eq_true rfl, Nat.le_of_ble_eq_true rfl, Nat.le_of_ble_eq_true rfl⟩) rfl ?_
    refine j_aload_n K dX7_odds_90 rfl 0 rfl ?_
    obtain ⟨v91, e91, h⟩ := bd h
    refine fgX7_16 K dX7_odds_91 e91 ?_
    refine j_iload_n K dX7_odds_94 rfl 3 rfl ?_
    obtain ⟨o95, ew95, hz95⟩ := bd h
    obtain ⟨er95, ho95⟩ := ob_some ew95
    subst er95
    have h := hz95
    obtain ⟨S95, e95, h⟩ := bd h
    refine j_cV (st := []) K (r_V (vs := [vI x3]) (n := 1) (o := o95) K (c_X0_look e95) ho95 (by decide) rfl dX7_odds_95 z529 z530 z531 z2 z532 ⟨zd_X0_look, rfl, rfl, rfl, ⟨Nat.le_of_ble_eq_true rfl, Nat.le_of_ble_eq_true rfl⟩, Nat.le_of_ble_eq_true rfl, Nat.le_of_ble_eq_true rfl, Nat.le_of_ble_eq_true rfl⟩) rfl ?_
    refine j_aload_n K dX7_odds_98 rfl 0 rfl ?_
    obtain ⟨v99, e99, h⟩ := bd h
    refine fgX7_16 K dX7_odds_99 e99 ?_
    refine j_aload_n K dX7_odds_102 rfl 0 rfl ?_
    obtain ⟨v103, e103, h⟩ := bd h
    refine fgX7_16 K dX7_odds_103 e103 ?_
    refine j_iload_n K dX7_odds_106 rfl 3 rfl ?_
    obtain ⟨o107, ew107, hz107⟩ := bd h
    obtain ⟨er107, ho107⟩ := ob_some ew107
    subst er107
    have h := hz107
    obtain ⟨v107, S107, e107, h⟩ := bd2 h
    refine j_cI (st := [vR v99]) K (r_V (vs := [vI x3]) (n := 1) (o := o107) K (c_X0_beats e107) ho107 (by decide) rfl dX7_odds_107 z517 z518 z519 z2 z520 ⟨zd_X0_beats, rfl, rfl, rfl, ⟨Nat.le_of_ble_eq_true rfl, Nat.le_of_ble_eq_true rfl⟩, Nat.le_of_ble_eq_true rfl, Nat.le_of_ble_eq_true rfl, Nat.le_of_ble_eq_true rfl⟩) rfl ?_
    obtain ⟨o110, ew110, hz110⟩ := bd h
    obtain ⟨er110, ho110⟩ := ob_some ew110
    subst er110
    have h := hz110
    obtain ⟨v110, S110, e110, h⟩ := bd2 h
    refine j_cI (st := []) K (r_V (vs := [vI v107]) (n := 1) (o := o110) K (c_X0_catchersAt e110) ho110 (by decide) rfl dX7_odds_110 z533 z534 z535 z2 z536 ⟨zd_X0_catchersAt, rfl, rfl, rfl, ⟨Nat.le_of_ble_eq_true rfl, Nat.le_of_ble_eq_true rfl⟩, Nat.le_of_ble_eq_true rfl, Nat.le_of_ble_eq_true rfl, Nat.le_of_ble_eq_true rfl⟩) rfl ?_
    refine j_if_eq K dX7_odds_113 (fun c113 => ?_) (fun c113 => ?_)
    · replace h := it c113 h
      exact w_X7_odds_119 K X hk73 h
    · replace h := ie c113 h
      refine j_iinc (q := 5) (v := (x6 + (1 : Int32))) (lv' := [(6, vI (x6 + (1 : Int32))), (0, vR (some o)), (1, vI x1), (2, vI x2), (3, vI x3), (4, vI x4), (7, vI x7)]) K dX7_odds_116 rfl rfl X.2.2.1 (by decide) rfl ?_
      exact j_sub [1, 2, 3, 4, 5, 0, 6] rfl (w_X7_odds_119 K X hk73 h)
def B_X7_odds_73 (fu : Nat) (o : Nat) (x1 : Int32) (x2 : Int32) (x3 : Int32) (x4 : Int32) : Nat → Hp → Int32 → Int32 → Option (Int64 × Hp)
  | 0 => fun _ _ _ => none
  | n + 1 => L_X7_odds_73 (B_X7_odds_73 fu o x1 x2 x3 x4 n) fu o x1 x2 x3 x4
theorem w_X7_odds_73 {E : Cx} {l : Launch} {res : Int64 × Hp} {ad : Nat → Nat} {fu : Nat} {o : Nat} {x1 : Int32} {x2 : Int32} {x3 : Int32} {x4 : Int32} (K : Kx E cX7_odds RX7 (rmd 5 0 0)) (X : Bx E l yX7_odds 8 (some .long) 0 0 ad (QL res)) : ∀ (n : Nat) (S : Hp) (x6 : Int32) (x7 : Int32), B_X7_odds_73 fu o x1 x2 x3 x4 n S x6 x7 = some res → J E 0 0 73 [(0, vR (some o)), (1, vI x1), (2, vI x2), (3, vI x3), (4, vI x4), (6, vI x6), (7, vI x7)] [] S ad := by
  intro n
  induction n with
  | zero =>
    intro S x6 x7 h
    cases h
  | succ n ih =>
    intro S x6 x7 h
    exact wl_X7_odds_73 K X ih h
def B_X7_odds_26 (fu : Nat) (o : Nat) (S : Hp) (x1 : Int32) (x2 : Int32) (x3 : Int32) (x4 : Int32) (s0 : Int32) : Option (Int64 × Hp) :=
  if s0 = 0 then
    B_X7_odds_52 fu o S
  else
    (gR S (some o) 5 0).bind fun v34 =>
    (ob S 0 v34).bind fun o38 =>
    b2 (F_X0_hasPerson S o38 x3) fun v38 S38 =>
    if v38 = 0 then
      B_X7_odds_52 fu o S38
    else
      b2 (F_X7_isZeroOrOne S38 x4) fun v46 S46 =>
      if v46 = 0 then
        B_X7_odds_52 fu o S46
      else
        (gR S46 (some o) 5 1).bind fun v57 =>
        (gR S46 (some o) 5 0).bind fun v61 =>
        (ob S46 0 v57).bind fun o64 =>
        (F_X0_takeFrom fu S46 o64 v61).bind fun S64 =>
        B_X7_odds_73 fu o x1 x2 x3 x4 fu S64 (0 : Int32) (0 : Int32)
set_option maxRecDepth 100000 in
set_option maxHeartbeats 4000000 in
theorem w_X7_odds_26 {E : Cx} {l : Launch} {res : Int64 × Hp} {ad : Nat → Nat} {fu : Nat} {o : Nat} {S : Hp} {x1 : Int32} {x2 : Int32} {x3 : Int32} {x4 : Int32} {s0 : Int32} (K : Kx E cX7_odds RX7 (rmd 5 0 0)) (X : Bx E l yX7_odds 8 (some .long) 0 0 ad (QL res)) (h : B_X7_odds_26 fu o S x1 x2 x3 x4 s0 = some res) : J E 0 0 26 [(0, vR (some o)), (1, vI x1), (2, vI x2), (3, vI x3), (4, vI x4)] [vI s0] S ad := by
  refine j_istore (lv' := [(5, vI s0), (0, vR (some o)), (1, vI x1), (2, vI x2), (3, vI x3), (4, vI x4)]) K dX7_odds_26 X.2.2.1 (by decide) rfl ?_
  refine j_iload K dX7_odds_28 0 rfl ?_
  refine j_if_eq K dX7_odds_30 (fun c30 => ?_) (fun c30 => ?_)
  · replace h := it c30 h
    exact j_sub [] rfl (w_X7_odds_52 K X h)
  · replace h := ie c30 h
    refine j_aload_n K dX7_odds_33 rfl 1 rfl ?_
    obtain ⟨v34, e34, h⟩ := bd h
    refine fgX7_10 K dX7_odds_34 e34 ?_
    refine j_iload_n K dX7_odds_37 rfl 4 rfl ?_
    obtain ⟨o38, ew38, hz38⟩ := bd h
    obtain ⟨er38, ho38⟩ := ob_some ew38
    subst er38
    have h := hz38
    obtain ⟨v38, S38, e38, h⟩ := bd2 h
    refine j_cI (st := []) K (r_V (vs := [vI x3]) (n := 1) (o := o38) K (c_X0_hasPerson e38) ho38 (by decide) rfl dX7_odds_38 z461 z462 z463 z2 z464 ⟨zd_X0_hasPerson, rfl, rfl, rfl, ⟨Nat.le_of_ble_eq_true rfl, Nat.le_of_ble_eq_true rfl⟩, Nat.le_of_ble_eq_true rfl, Nat.le_of_ble_eq_true rfl, Nat.le_of_ble_eq_true rfl⟩) rfl ?_
    refine j_if_eq K dX7_odds_41 (fun c41 => ?_) (fun c41 => ?_)
    · replace h := it c41 h
      exact j_sub [] rfl (w_X7_odds_52 K X h)
    · replace h := ie c41 h
      refine j_iload K dX7_odds_44 5 rfl ?_
      obtain ⟨v46, S46, e46, h⟩ := bd2 h
      refine j_cI (st := []) K (r_S (vs := [vI x4]) (n := 1) K (c_X7_isZeroOrOne e46) dX7_odds_46 z497 z498 z1 z499 ⟨zd_X7_isZeroOrOne, rfl, rfl, rfl, ⟨Nat.le_of_ble_eq_true rfl, Nat.le_of_ble_eq_true rfl⟩, Nat.le_of_ble_eq_true rfl, Nat.le_of_ble_eq_true rfl, Nat.le_of_ble_eq_true rfl⟩) rfl ?_
      refine j_if_ne K dX7_odds_49 (fun c49 => ?_) (fun c49 => ?_)
      · replace h := ie c49 h
        refine j_aload_n K dX7_odds_56 rfl 1 rfl ?_
        obtain ⟨v57, e57, h⟩ := bd h
        refine fgX7_16 K dX7_odds_57 e57 ?_
        refine j_aload_n K dX7_odds_60 rfl 1 rfl ?_
        obtain ⟨v61, e61, h⟩ := bd h
        refine fgX7_10 K dX7_odds_61 e61 ?_
        obtain ⟨o64, ew64, hz64⟩ := bd h
        obtain ⟨er64, ho64⟩ := ob_some ew64
        subst er64
        have h := hz64
        obtain ⟨S64, e64, h⟩ := bd h
        refine j_cV (st := []) K (r_V (vs := [vR v61]) (n := 1) (o := o64) K (c_X0_takeFrom e64) ho64 (by decide) rfl dX7_odds_64 z622 z623 z624 z2 z625 ⟨zd_X0_takeFrom, rfl, rfl, rfl, ⟨Nat.le_of_ble_eq_true rfl, Nat.le_of_ble_eq_true rfl⟩, Nat.le_of_ble_eq_true rfl, Nat.le_of_ble_eq_true rfl, Nat.le_of_ble_eq_true rfl⟩) rfl ?_
        refine j_iconst (v := (0 : Int32)) K dX7_odds_67 (by decide) ?_
        refine j_istore (lv' := [(6, vI (0 : Int32)), (5, vI s0), (0, vR (some o)), (1, vI x1), (2, vI x2), (3, vI x3), (4, vI x4)]) K dX7_odds_68 X.2.2.1 (by decide) rfl ?_
        refine j_iconst (v := (0 : Int32)) K dX7_odds_70 (by decide) ?_
        refine j_istore (lv' := [(7, vI (0 : Int32)), (6, vI (0 : Int32)), (5, vI s0), (0, vR (some o)), (1, vI x1), (2, vI x2), (3, vI x3), (4, vI x4)]) K dX7_odds_71 X.2.2.1 (by decide) rfl ?_
        exact j_sub [3, 4, 5, 6, 7, 1, 0] rfl (w_X7_odds_73 K X _ _ _ _ h)
      · replace h := it c49 h
        exact j_sub [] rfl (w_X7_odds_52 K X h)
def B_X7_odds_25 (fu : Nat) (o : Nat) (S : Hp) (x1 : Int32) (x2 : Int32) (x3 : Int32) (x4 : Int32) : Option (Int64 × Hp) :=
  B_X7_odds_26 fu o S x1 x2 x3 x4 (0 : Int32)
set_option maxRecDepth 100000 in
set_option maxHeartbeats 4000000 in
theorem w_X7_odds_25 {E : Cx} {l : Launch} {res : Int64 × Hp} {ad : Nat → Nat} {fu : Nat} {o : Nat} {S : Hp} {x1 : Int32} {x2 : Int32} {x3 : Int32} {x4 : Int32} (K : Kx E cX7_odds RX7 (rmd 5 0 0)) (X : Bx E l yX7_odds 8 (some .long) 0 0 ad (QL res)) (h : B_X7_odds_25 fu o S x1 x2 x3 x4 = some res) : J E 0 0 25 [(0, vR (some o)), (1, vI x1), (2, vI x2), (3, vI x3), (4, vI x4)] [] S ad := by
  refine j_iconst (v := (0 : Int32)) K dX7_odds_25 (by decide) ?_
  exact w_X7_odds_26 K X h
def F_X7_odds (fu : Nat) (S : Hp) (o : Nat) (x1 : Int32) (x2 : Int32) (x3 : Int32) (x4 : Int32) : Option (Int64 × Hp) :=
  b2 (F_X7_fits S x1 (100000 : Int32)) fun v4 S4 =>
  if v4 = 0 then
    B_X7_odds_25 fu o S4 x1 x2 x3 x4
  else
    if x2 < (1 : Int32) then
      B_X7_odds_25 fu o S4 x1 x2 x3 x4
    else
      if (40 : Int32) < x2 then
        B_X7_odds_25 fu o S4 x1 x2 x3 x4
      else
        B_X7_odds_26 fu o S4 x1 x2 x3 x4 (1 : Int32)
set_option maxRecDepth 100000 in
set_option maxHeartbeats 4000000 in
theorem w_X7_odds {E : Cx} {l : Launch} {res : Int64 × Hp} {ad : Nat → Nat} {fu : Nat} {S : Hp} {o : Nat} {x1 : Int32} {x2 : Int32} {x3 : Int32} {x4 : Int32} (K : Kx E cX7_odds RX7 (rmd 5 0 0)) (X : Bx E l yX7_odds 8 (some .long) 0 0 ad (QL res)) (h : F_X7_odds fu S o x1 x2 x3 x4 = some res) : J E 0 0 0 [(0, vR (some o)), (1, vI x1), (2, vI x2), (3, vI x3), (4, vI x4)] [] S ad := by
  refine j_iload_n K dX7_odds_0 rfl 1 rfl ?_
  refine j_ldcw K dX7_odds_1 z741 ?_
  obtain ⟨v4, S4, e4, h⟩ := bd2 h
  refine j_cI (st := []) K (r_S (vs := [vI x1, vI (100000 : Int32)]) (n := 2) K (c_X7_fits e4) dX7_odds_4 z444 z425 z1 z426 ⟨zd_X7_fits, rfl, rfl, rfl, ⟨Nat.le_of_ble_eq_true rfl, Nat.le_of_ble_eq_true rfl⟩, Nat.le_of_ble_eq_true rfl, Nat.le_of_ble_eq_true rfl, Nat.le_of_ble_eq_true rfl⟩) rfl ?_
  refine j_if_eq K dX7_odds_7 (fun c7 => ?_) (fun c7 => ?_)
  · replace h := it c7 h
    exact w_X7_odds_25 K X h
  · replace h := ie c7 h
    refine j_iload_n K dX7_odds_10 rfl 2 rfl ?_
    refine j_iconst (v := (1 : Int32)) K dX7_odds_11 (by decide) ?_
    refine j_icmp_lt K dX7_odds_12 (fun c12 => ?_) (fun c12 => ?_)
    · replace h := it c12 h
      exact w_X7_odds_25 K X h
    · replace h := ie c12 h
      refine j_iload_n K dX7_odds_15 rfl 2 rfl ?_
      refine j_bipush (v := (40 : Int32)) K dX7_odds_16 (by decide) ?_
      refine j_icmp_gt K dX7_odds_18 (fun c18 => ?_) (fun c18 => ?_)
      · replace h := it c18 h
        exact w_X7_odds_25 K X h
      · replace h := ie c18 h
        refine j_iconst (v := (1 : Int32)) K dX7_odds_21 (by decide) ?_
        refine j_goto K dX7_odds_22 ?_
        exact w_X7_odds_26 K X h
theorem c_X7_odds {l : Launch} {fu : Nat} {S : Hp} {o : Nat} {x1 : Int32} {x2 : Int32} {x3 : Int32} {x4 : Int32} {res : Int64 × Hp} (h : F_X7_odds fu S o x1 x2 x3 x4 = some res) : Ct l yX7_odds cX7_odds 8 (some .long) (rmd 5 0 0) 0 0 [vR (some o), vI x1, vI x2, vI x3, vI x4] S (QL res) :=
  z_entry (by decide +kernel) (Nat.le_of_ble_eq_true rfl) (fun E ad K X => w_X7_odds K X h)

theorem dX7_image_0 : decode cX7_image 0 = .ok (.aload_n 0, 1) ∧ 0 + 1 = 1 := ⟨by decide +kernel, rfl⟩
theorem dX7_image_1 : decode cX7_image 1 = .ok (.getfield 19, 3) ∧ 1 + 3 = 4 := ⟨by decide +kernel, rfl⟩
theorem dX7_image_4 : decode cX7_image 4 = .ok (.aload_n 0, 1) ∧ 4 + 1 = 5 := ⟨by decide +kernel, rfl⟩
theorem dX7_image_5 : decode cX7_image 5 = .ok (.getfield 10, 3) ∧ 5 + 3 = 8 := ⟨by decide +kernel, rfl⟩
theorem dX7_image_8 : decode cX7_image 8 = .ok (.invokevirtual 230, 3) := by decide +kernel
theorem dX7_image_11 : decode cX7_image 11 = .ok (.aload_n 0, 1) ∧ 11 + 1 = 12 := ⟨by decide +kernel, rfl⟩
theorem dX7_image_12 : decode cX7_image 12 = .ok (.iconst 1, 1) ∧ 12 + 1 = 13 := ⟨by decide +kernel, rfl⟩
theorem dX7_image_13 : decode cX7_image 13 = .ok (.putfield 22, 3) ∧ 13 + 3 = 16 := ⟨by decide +kernel, rfl⟩
theorem dX7_image_16 : decode cX7_image 16 = .ok (.aload_n 0, 1) ∧ 16 + 1 = 17 := ⟨by decide +kernel, rfl⟩
theorem dX7_image_17 : decode cX7_image 17 = .ok (.getfield 10, 3) ∧ 17 + 3 = 20 := ⟨by decide +kernel, rfl⟩
theorem dX7_image_20 : decode cX7_image 20 = .ok (.getfield 90, 3) ∧ 20 + 3 = 23 := ⟨by decide +kernel, rfl⟩
theorem dX7_image_23 : decode cX7_image 23 = .ok (.ireturn, 1) := by decide +kernel
def F_X7_image (fu : Nat) (S : Hp) (o : Nat) : Option (Int32 × Hp) :=
  (gR S (some o) 5 2).bind fun v1 =>
  (gR S (some o) 5 0).bind fun v5 =>
  (ob S 0 v1).bind fun o8 =>
  (F_X0_takeFrom fu S o8 v5).bind fun S8 =>
  (pI S8 (some o) 5 3 (1 : Int32)).bind fun S13 =>
  (gR S13 (some o) 5 0).bind fun v17 =>
  (gI S13 v17 0 0).bind fun v20 =>
  some (v20, S13)
set_option maxRecDepth 100000 in
set_option maxHeartbeats 4000000 in
theorem w_X7_image {E : Cx} {l : Launch} {res : Int32 × Hp} {ad : Nat → Nat} {fu : Nat} {S : Hp} {o : Nat} (K : Kx E cX7_image RX7 (rmd 2 0 0)) (X : Bx E l yX7_image 1 (some .int) 0 0 ad (QI res)) (h : F_X7_image fu S o = some res) : J E 0 0 0 [(0, vR (some o))] [] S ad := by
  refine j_aload_n K dX7_image_0 rfl 0 rfl ?_
  obtain ⟨v1, e1, h⟩ := bd h
  refine fgX7_19 K dX7_image_1 e1 ?_
  refine j_aload_n K dX7_image_4 rfl 0 rfl ?_
  obtain ⟨v5, e5, h⟩ := bd h
  refine fgX7_10 K dX7_image_5 e5 ?_
  obtain ⟨o8, ew8, hz8⟩ := bd h
  obtain ⟨er8, ho8⟩ := ob_some ew8
  subst er8
  have h := hz8
  obtain ⟨S8, e8, h⟩ := bd h
  refine j_cV (st := []) K (r_V (vs := [vR v5]) (n := 1) (o := o8) K (c_X0_takeFrom e8) ho8 (by decide) rfl dX7_image_8 z622 z623 z624 z2 z625 ⟨zd_X0_takeFrom, rfl, rfl, rfl, ⟨Nat.le_of_ble_eq_true rfl, Nat.le_of_ble_eq_true rfl⟩, Nat.le_of_ble_eq_true rfl, Nat.le_of_ble_eq_true rfl, Nat.le_of_ble_eq_true rfl⟩) rfl ?_
  refine j_aload_n K dX7_image_11 rfl 0 rfl ?_
  refine j_iconst (v := (1 : Int32)) K dX7_image_12 (by decide) ?_
  obtain ⟨S13, e13, h⟩ := bd h
  refine fpX7_22 K dX7_image_13 rfl rfl e13 ?_
  refine j_aload_n K dX7_image_16 rfl 0 rfl ?_
  obtain ⟨v17, e17, h⟩ := bd h
  refine fgX7_10 K dX7_image_17 e17 ?_
  obtain ⟨v20, e20, h⟩ := bd h
  refine fgX7_90 K dX7_image_20 e20 ?_
  exact j_iret K X dX7_image_23 h
theorem c_X7_image {l : Launch} {fu : Nat} {S : Hp} {o : Nat} {res : Int32 × Hp} (h : F_X7_image fu S o = some res) : Ct l yX7_image cX7_image 1 (some .int) (rmd 2 0 0) 0 0 [vR (some o)] S (QI res) :=
  z_entry (by decide +kernel) (Nat.le_of_ble_eq_true rfl) (fun E ad K X => w_X7_image K X h)

theorem dX7_back_0 : decode cX7_back 0 = .ok (.aload_n 0, 1) ∧ 0 + 1 = 1 := ⟨by decide +kernel, rfl⟩
theorem dX7_back_1 : decode cX7_back 1 = .ok (.getfield 22, 3) ∧ 1 + 3 = 4 := ⟨by decide +kernel, rfl⟩
theorem dX7_back_4 : decode cX7_back 4 = .ok (.ifCond .ne 6, 3) ∧ 4 + 3 = 7 ∧ ((4 : Nat) : Int) + (6) = ((10 : Nat) : Int) := ⟨by decide +kernel, rfl, by decide⟩
theorem dX7_back_7 : decode cX7_back 7 = .ok (.bipush (-3), 2) ∧ 7 + 2 = 9 := ⟨by decide +kernel, rfl⟩
theorem dX7_back_9 : decode cX7_back 9 = .ok (.ireturn, 1) := by decide +kernel
theorem dX7_back_10 : decode cX7_back 10 = .ok (.aload_n 0, 1) ∧ 10 + 1 = 11 := ⟨by decide +kernel, rfl⟩
theorem dX7_back_11 : decode cX7_back 11 = .ok (.getfield 10, 3) ∧ 11 + 3 = 14 := ⟨by decide +kernel, rfl⟩
theorem dX7_back_14 : decode cX7_back 14 = .ok (.aload_n 0, 1) ∧ 14 + 1 = 15 := ⟨by decide +kernel, rfl⟩
theorem dX7_back_15 : decode cX7_back 15 = .ok (.getfield 19, 3) ∧ 15 + 3 = 18 := ⟨by decide +kernel, rfl⟩
theorem dX7_back_18 : decode cX7_back 18 = .ok (.invokevirtual 230, 3) := by decide +kernel
theorem dX7_back_21 : decode cX7_back 21 = .ok (.aload_n 0, 1) ∧ 21 + 1 = 22 := ⟨by decide +kernel, rfl⟩
theorem dX7_back_22 : decode cX7_back 22 = .ok (.getfield 10, 3) ∧ 22 + 3 = 25 := ⟨by decide +kernel, rfl⟩
theorem dX7_back_25 : decode cX7_back 25 = .ok (.getfield 90, 3) ∧ 25 + 3 = 28 := ⟨by decide +kernel, rfl⟩
theorem dX7_back_28 : decode cX7_back 28 = .ok (.ireturn, 1) := by decide +kernel
def F_X7_back (fu : Nat) (S : Hp) (o : Nat) : Option (Int32 × Hp) :=
  (gI S (some o) 5 3).bind fun v1 =>
  if v1 = 0 then
    some ((-3 : Int32), S)
  else
    (gR S (some o) 5 0).bind fun v11 =>
    (gR S (some o) 5 2).bind fun v15 =>
    (ob S 0 v11).bind fun o18 =>
    (F_X0_takeFrom fu S o18 v15).bind fun S18 =>
    (gR S18 (some o) 5 0).bind fun v22 =>
    (gI S18 v22 0 0).bind fun v25 =>
    some (v25, S18)
set_option maxRecDepth 100000 in
set_option maxHeartbeats 4000000 in
theorem w_X7_back {E : Cx} {l : Launch} {res : Int32 × Hp} {ad : Nat → Nat} {fu : Nat} {S : Hp} {o : Nat} (K : Kx E cX7_back RX7 (rmd 2 0 0)) (X : Bx E l yX7_back 1 (some .int) 0 0 ad (QI res)) (h : F_X7_back fu S o = some res) : J E 0 0 0 [(0, vR (some o))] [] S ad := by
  refine j_aload_n K dX7_back_0 rfl 0 rfl ?_
  obtain ⟨v1, e1, h⟩ := bd h
  refine fgX7_22 K dX7_back_1 e1 ?_
  refine j_if_ne K dX7_back_4 (fun c4 => ?_) (fun c4 => ?_)
  · replace h := ie c4 h
    refine j_aload_n K dX7_back_10 rfl 0 rfl ?_
    obtain ⟨v11, e11, h⟩ := bd h
    refine fgX7_10 K dX7_back_11 e11 ?_
    refine j_aload_n K dX7_back_14 rfl 0 rfl ?_
    obtain ⟨v15, e15, h⟩ := bd h
    refine fgX7_19 K dX7_back_15 e15 ?_
    obtain ⟨o18, ew18, hz18⟩ := bd h
    obtain ⟨er18, ho18⟩ := ob_some ew18
    subst er18
    have h := hz18
    obtain ⟨S18, e18, h⟩ := bd h
    refine j_cV (st := []) K (r_V (vs := [vR v15]) (n := 1) (o := o18) K (c_X0_takeFrom e18) ho18 (by decide) rfl dX7_back_18 z622 z623 z624 z2 z625 ⟨zd_X0_takeFrom, rfl, rfl, rfl, ⟨Nat.le_of_ble_eq_true rfl, Nat.le_of_ble_eq_true rfl⟩, Nat.le_of_ble_eq_true rfl, Nat.le_of_ble_eq_true rfl, Nat.le_of_ble_eq_true rfl⟩) rfl ?_
    refine j_aload_n K dX7_back_21 rfl 0 rfl ?_
    obtain ⟨v22, e22, h⟩ := bd h
    refine fgX7_10 K dX7_back_22 e22 ?_
    obtain ⟨v25, e25, h⟩ := bd h
    refine fgX7_90 K dX7_back_25 e25 ?_
    exact j_iret K X dX7_back_28 h
  · replace h := it c4 h
    refine j_bipush (v := (-3 : Int32)) K dX7_back_7 (by decide) ?_
    exact j_iret K X dX7_back_9 h
theorem c_X7_back {l : Launch} {fu : Nat} {S : Hp} {o : Nat} {res : Int32 × Hp} (h : F_X7_back fu S o = some res) : Ct l yX7_back cX7_back 1 (some .int) (rmd 2 0 0) 0 0 [vR (some o)] S (QI res) :=
  z_entry (by decide +kernel) (Nat.le_of_ble_eq_true rfl) (fun E ad K X => w_X7_back K X h)

theorem dX7_sheet_0 : decode cX7_sheet 0 = .ok (.aload_n 0, 1) ∧ 0 + 1 = 1 := ⟨by decide +kernel, rfl⟩
theorem dX7_sheet_1 : decode cX7_sheet 1 = .ok (.iload_n 1, 1) ∧ 1 + 1 = 2 := ⟨by decide +kernel, rfl⟩
theorem dX7_sheet_2 : decode cX7_sheet 2 = .ok (.invokevirtual 252, 3) := by decide +kernel
theorem dX7_sheet_5 : decode cX7_sheet 5 = .ok (.astore 4, 2) ∧ 5 + 2 = 7 := ⟨by decide +kernel, rfl⟩
theorem dX7_sheet_7 : decode cX7_sheet 7 = .ok (.iload_n 2, 1) ∧ 7 + 1 = 8 := ⟨by decide +kernel, rfl⟩
theorem dX7_sheet_8 : decode cX7_sheet 8 = .ok (.iconst (-1), 1) ∧ 8 + 1 = 9 := ⟨by decide +kernel, rfl⟩
theorem dX7_sheet_9 : decode cX7_sheet 9 = .ok (.if_icmp .ne 7, 3) ∧ 9 + 3 = 12 ∧ ((9 : Nat) : Int) + (7) = ((16 : Nat) : Int) := ⟨by decide +kernel, rfl, by decide⟩
theorem dX7_sheet_12 : decode cX7_sheet 12 = .ok (.iconst 1, 1) ∧ 12 + 1 = 13 := ⟨by decide +kernel, rfl⟩
theorem dX7_sheet_13 : decode cX7_sheet 13 = .ok (.goto 4, 3) ∧ ((13 : Nat) : Int) + (4) = ((17 : Nat) : Int) := ⟨by decide +kernel, by decide⟩
theorem dX7_sheet_16 : decode cX7_sheet 16 = .ok (.iconst 0, 1) ∧ 16 + 1 = 17 := ⟨by decide +kernel, rfl⟩
theorem dX7_sheet_17 : decode cX7_sheet 17 = .ok (.istore 5, 2) ∧ 17 + 2 = 19 := ⟨by decide +kernel, rfl⟩
theorem dX7_sheet_19 : decode cX7_sheet 19 = .ok (.aload 4, 2) ∧ 19 + 2 = 21 := ⟨by decide +kernel, rfl⟩
theorem dX7_sheet_21 : decode cX7_sheet 21 = .ok (.ifnull 22, 3) ∧ 21 + 3 = 24 ∧ ((21 : Nat) : Int) + (22) = ((43 : Nat) : Int) := ⟨by decide +kernel, rfl, by decide⟩
theorem dX7_sheet_24 : decode cX7_sheet 24 = .ok (.iload 5, 2) ∧ 24 + 2 = 26 := ⟨by decide +kernel, rfl⟩
theorem dX7_sheet_26 : decode cX7_sheet 26 = .ok (.ifCond .ne 20, 3) ∧ 26 + 3 = 29 ∧ ((26 : Nat) : Int) + (20) = ((46 : Nat) : Int) := ⟨by decide +kernel, rfl, by decide⟩
theorem dX7_sheet_29 : decode cX7_sheet 29 = .ok (.iload_n 2, 1) ∧ 29 + 1 = 30 := ⟨by decide +kernel, rfl⟩
theorem dX7_sheet_30 : decode cX7_sheet 30 = .ok (.iconst 3, 1) ∧ 30 + 1 = 31 := ⟨by decide +kernel, rfl⟩
theorem dX7_sheet_31 : decode cX7_sheet 31 = .ok (.invokestatic 135, 3) := by decide +kernel
theorem dX7_sheet_34 : decode cX7_sheet 34 = .ok (.ifCond .eq 9, 3) ∧ 34 + 3 = 37 ∧ ((34 : Nat) : Int) + (9) = ((43 : Nat) : Int) := ⟨by decide +kernel, rfl, by decide⟩
theorem dX7_sheet_37 : decode cX7_sheet 37 = .ok (.iload_n 3, 1) ∧ 37 + 1 = 38 := ⟨by decide +kernel, rfl⟩
theorem dX7_sheet_38 : decode cX7_sheet 38 = .ok (.bipush 40, 2) ∧ 38 + 2 = 40 := ⟨by decide +kernel, rfl⟩
theorem dX7_sheet_40 : decode cX7_sheet 40 = .ok (.if_icmp .le 6, 3) ∧ 40 + 3 = 43 ∧ ((40 : Nat) : Int) + (6) = ((46 : Nat) : Int) := ⟨by decide +kernel, rfl, by decide⟩
theorem dX7_sheet_43 : decode cX7_sheet 43 = .ok (.bipush (-2), 2) ∧ 43 + 2 = 45 := ⟨by decide +kernel, rfl⟩
theorem dX7_sheet_45 : decode cX7_sheet 45 = .ok (.ireturn, 1) := by decide +kernel
theorem dX7_sheet_46 : decode cX7_sheet 46 = .ok (.iload 5, 2) ∧ 46 + 2 = 48 := ⟨by decide +kernel, rfl⟩
theorem dX7_sheet_48 : decode cX7_sheet 48 = .ok (.ifCond .ne 10, 3) ∧ 48 + 3 = 51 ∧ ((48 : Nat) : Int) + (10) = ((58 : Nat) : Int) := ⟨by decide +kernel, rfl, by decide⟩
theorem dX7_sheet_51 : decode cX7_sheet 51 = .ok (.iload_n 3, 1) ∧ 51 + 1 = 52 := ⟨by decide +kernel, rfl⟩
theorem dX7_sheet_52 : decode cX7_sheet 52 = .ok (.ifCond .ge 6, 3) ∧ 52 + 3 = 55 ∧ ((52 : Nat) : Int) + (6) = ((58 : Nat) : Int) := ⟨by decide +kernel, rfl, by decide⟩
theorem dX7_sheet_55 : decode cX7_sheet 55 = .ok (.bipush (-14), 2) ∧ 55 + 2 = 57 := ⟨by decide +kernel, rfl⟩
theorem dX7_sheet_57 : decode cX7_sheet 57 = .ok (.ireturn, 1) := by decide +kernel
theorem dX7_sheet_58 : decode cX7_sheet 58 = .ok (.aload 4, 2) ∧ 58 + 2 = 60 := ⟨by decide +kernel, rfl⟩
theorem dX7_sheet_60 : decode cX7_sheet 60 = .ok (.iload_n 2, 1) ∧ 60 + 1 = 61 := ⟨by decide +kernel, rfl⟩
theorem dX7_sheet_61 : decode cX7_sheet 61 = .ok (.iload 5, 2) ∧ 61 + 2 = 63 := ⟨by decide +kernel, rfl⟩
theorem dX7_sheet_63 : decode cX7_sheet 63 = .ok (.ifCond .eq 7, 3) ∧ 63 + 3 = 66 ∧ ((63 : Nat) : Int) + (7) = ((70 : Nat) : Int) := ⟨by decide +kernel, rfl, by decide⟩
theorem dX7_sheet_66 : decode cX7_sheet 66 = .ok (.iconst 0, 1) ∧ 66 + 1 = 67 := ⟨by decide +kernel, rfl⟩
theorem dX7_sheet_67 : decode cX7_sheet 67 = .ok (.goto 4, 3) ∧ ((67 : Nat) : Int) + (4) = ((71 : Nat) : Int) := ⟨by decide +kernel, by decide⟩
theorem dX7_sheet_70 : decode cX7_sheet 70 = .ok (.iload_n 3, 1) ∧ 70 + 1 = 71 := ⟨by decide +kernel, rfl⟩
theorem dX7_sheet_71 : decode cX7_sheet 71 = .ok (.invokevirtual 270, 3) := by decide +kernel
theorem dX7_sheet_74 : decode cX7_sheet 74 = .ok (.iconst 1, 1) ∧ 74 + 1 = 75 := ⟨by decide +kernel, rfl⟩
theorem dX7_sheet_75 : decode cX7_sheet 75 = .ok (.ireturn, 1) := by decide +kernel
def B_X7_sheet_43 (fu : Nat) (o : Nat) (S : Hp) : Option (Int32 × Hp) :=
  some ((-2 : Int32), S)
set_option maxRecDepth 100000 in
set_option maxHeartbeats 4000000 in
theorem w_X7_sheet_43 {E : Cx} {l : Launch} {res : Int32 × Hp} {ad : Nat → Nat} {fu : Nat} {o : Nat} {S : Hp} (K : Kx E cX7_sheet RX7 (rmd 1 0 0)) (X : Bx E l yX7_sheet 6 (some .int) 0 0 ad (QI res)) (h : B_X7_sheet_43 fu o S = some res) : J E 0 0 43 [] [] S ad := by
  refine j_bipush (v := (-2 : Int32)) K dX7_sheet_43 (by decide) ?_
  exact j_iret K X dX7_sheet_45 h
def B_X7_sheet_71 (fu : Nat) (o : Nat) (S : Hp) (s0 : Int32) (s1 : Int32) (s2 : Option Nat) : Option (Int32 × Hp) :=
  (ob S 3 s2).bind fun o71 =>
  (F_X4_lay fu S o71 s1 s0).bind fun S71 =>
  some ((1 : Int32), S71)
set_option maxRecDepth 100000 in
set_option maxHeartbeats 4000000 in
theorem w_X7_sheet_71 {E : Cx} {l : Launch} {res : Int32 × Hp} {ad : Nat → Nat} {fu : Nat} {o : Nat} {S : Hp} {s0 : Int32} {s1 : Int32} {s2 : Option Nat} (K : Kx E cX7_sheet RX7 (rmd 1 0 0)) (X : Bx E l yX7_sheet 6 (some .int) 0 0 ad (QI res)) (h : B_X7_sheet_71 fu o S s0 s1 s2 = some res) : J E 0 0 71 [] [vI s0, vI s1, vR s2] S ad := by
  obtain ⟨o71, ew71, hz71⟩ := bd h
  obtain ⟨er71, ho71⟩ := ob_some ew71
  subst er71
  have h := hz71
  obtain ⟨S71, e71, h⟩ := bd h
  refine j_cV (st := []) K (r_V (vs := [vI s1, vI s0]) (n := 2) (o := o71) K (c_X4_lay e71) ho71 (by decide) rfl dX7_sheet_71 z728 z729 z730 z5 z731 ⟨zd_X4_lay, rfl, rfl, rfl, ⟨Nat.le_of_ble_eq_true rfl, Nat.le_of_ble_eq_true rfl⟩, Nat.le_of_ble_eq_true rfl, Nat.le_of_ble_eq_true rfl, Nat.le_of_ble_eq_true rfl⟩) rfl ?_
  refine j_iconst (v := (1 : Int32)) K dX7_sheet_74 (by decide) ?_
  exact j_iret K X dX7_sheet_75 h
def B_X7_sheet_58 (fu : Nat) (o : Nat) (S : Hp) (x2 : Int32) (x3 : Int32) (x4 : Option Nat) (x5 : Int32) : Option (Int32 × Hp) :=
  if x5 = 0 then
    B_X7_sheet_71 fu o S x3 x2 x4
  else
    B_X7_sheet_71 fu o S (0 : Int32) x2 x4
set_option maxRecDepth 100000 in
set_option maxHeartbeats 4000000 in
theorem w_X7_sheet_58 {E : Cx} {l : Launch} {res : Int32 × Hp} {ad : Nat → Nat} {fu : Nat} {o : Nat} {S : Hp} {x2 : Int32} {x3 : Int32} {x4 : Option Nat} {x5 : Int32} (K : Kx E cX7_sheet RX7 (rmd 1 0 0)) (X : Bx E l yX7_sheet 6 (some .int) 0 0 ad (QI res)) (h : B_X7_sheet_58 fu o S x2 x3 x4 x5 = some res) : J E 0 0 58 [(2, vI x2), (3, vI x3), (4, vR x4), (5, vI x5)] [] S ad := by
  refine j_aload K dX7_sheet_58 2 rfl ?_
  refine j_iload_n K dX7_sheet_60 rfl 0 rfl ?_
  refine j_iload K dX7_sheet_61 3 rfl ?_
  refine j_if_eq K dX7_sheet_63 (fun c63 => ?_) (fun c63 => ?_)
  · replace h := it c63 h
    refine j_iload_n K dX7_sheet_70 rfl 1 rfl ?_
    exact j_sub [] rfl (w_X7_sheet_71 K X h)
  · replace h := ie c63 h
    refine j_iconst (v := (0 : Int32)) K dX7_sheet_66 (by decide) ?_
    refine j_goto K dX7_sheet_67 ?_
    exact j_sub [] rfl (w_X7_sheet_71 K X h)
def B_X7_sheet_46 (fu : Nat) (o : Nat) (S : Hp) (x2 : Int32) (x3 : Int32) (x4 : Option Nat) (x5 : Int32) : Option (Int32 × Hp) :=
  if x5 = 0 then
    if 0 ≤ x3 then
      B_X7_sheet_58 fu o S x2 x3 x4 x5
    else
      some ((-14 : Int32), S)
  else
    B_X7_sheet_58 fu o S x2 x3 x4 x5
set_option maxRecDepth 100000 in
set_option maxHeartbeats 4000000 in
theorem w_X7_sheet_46 {E : Cx} {l : Launch} {res : Int32 × Hp} {ad : Nat → Nat} {fu : Nat} {o : Nat} {S : Hp} {x2 : Int32} {x3 : Int32} {x4 : Option Nat} {x5 : Int32} (K : Kx E cX7_sheet RX7 (rmd 1 0 0)) (X : Bx E l yX7_sheet 6 (some .int) 0 0 ad (QI res)) (h : B_X7_sheet_46 fu o S x2 x3 x4 x5 = some res) : J E 0 0 46 [(2, vI x2), (3, vI x3), (4, vR x4), (5, vI x5)] [] S ad := by
  refine j_iload K dX7_sheet_46 3 rfl ?_
  refine j_if_ne K dX7_sheet_48 (fun c48 => ?_) (fun c48 => ?_)
  · replace h := ie c48 h
    exact w_X7_sheet_58 K X h
  · replace h := it c48 h
    refine j_iload_n K dX7_sheet_51 rfl 1 rfl ?_
    refine j_if_ge K dX7_sheet_52 (fun c52 => ?_) (fun c52 => ?_)
    · replace h := it c52 h
      exact w_X7_sheet_58 K X h
    · replace h := ie c52 h
      refine j_bipush (v := (-14 : Int32)) K dX7_sheet_55 (by decide) ?_
      exact j_iret K X dX7_sheet_57 h
def B_X7_sheet_17 (fu : Nat) (o : Nat) (S : Hp) (x2 : Int32) (x3 : Int32) (x4 : Option Nat) (s0 : Int32) : Option (Int32 × Hp) :=
  if x4 = none then
    B_X7_sheet_43 fu o S
  else
    if s0 = 0 then
      b2 (F_X7_fits S x2 (3 : Int32)) fun v31 S31 =>
      if v31 = 0 then
        B_X7_sheet_43 fu o S31
      else
        if x3 ≤ (40 : Int32) then
          B_X7_sheet_46 fu o S31 x2 x3 x4 s0
        else
          B_X7_sheet_43 fu o S31
    else
      B_X7_sheet_46 fu o S x2 x3 x4 s0
set_option maxRecDepth 100000 in
set_option maxHeartbeats 4000000 in
theorem w_X7_sheet_17 {E : Cx} {l : Launch} {res : Int32 × Hp} {ad : Nat → Nat} {fu : Nat} {o : Nat} {S : Hp} {x2 : Int32} {x3 : Int32} {x4 : Option Nat} {s0 : Int32} (K : Kx E cX7_sheet RX7 (rmd 1 0 0)) (X : Bx E l yX7_sheet 6 (some .int) 0 0 ad (QI res)) (h : B_X7_sheet_17 fu o S x2 x3 x4 s0 = some res) : J E 0 0 17 [(2, vI x2), (3, vI x3), (4, vR x4)] [vI s0] S ad := by
  refine j_istore (lv' := [(5, vI s0), (2, vI x2), (3, vI x3), (4, vR x4)]) K dX7_sheet_17 X.2.2.1 (by decide) rfl ?_
  refine j_aload K dX7_sheet_19 3 rfl ?_
  refine j_ifnull K dX7_sheet_21 (fun c21 => ?_) (fun c21 => ?_)
  · replace h := it c21 h
    exact j_sub [] rfl (w_X7_sheet_43 K X h)
  · replace h := ie c21 h
    refine j_iload K dX7_sheet_24 0 rfl ?_
    refine j_if_ne K dX7_sheet_26 (fun c26 => ?_) (fun c26 => ?_)
    · replace h := ie c26 h
      exact j_sub [1, 2, 3, 0] rfl (w_X7_sheet_46 K X h)
    · replace h := it c26 h
      refine j_iload_n K dX7_sheet_29 rfl 1 rfl ?_
      refine j_iconst (v := (3 : Int32)) K dX7_sheet_30 (by decide) ?_
      obtain ⟨v31, S31, e31, h⟩ := bd2 h
      refine j_cI (st := []) K (r_S (vs := [vI x2, vI (3 : Int32)]) (n := 2) K (c_X7_fits e31) dX7_sheet_31 z444 z425 z1 z426 ⟨zd_X7_fits, rfl, rfl, rfl, ⟨Nat.le_of_ble_eq_true rfl, Nat.le_of_ble_eq_true rfl⟩, Nat.le_of_ble_eq_true rfl, Nat.le_of_ble_eq_true rfl, Nat.le_of_ble_eq_true rfl⟩) rfl ?_
      refine j_if_eq K dX7_sheet_34 (fun c34 => ?_) (fun c34 => ?_)
      · replace h := it c34 h
        exact j_sub [] rfl (w_X7_sheet_43 K X h)
      · replace h := ie c34 h
        refine j_iload_n K dX7_sheet_37 rfl 2 rfl ?_
        refine j_bipush (v := (40 : Int32)) K dX7_sheet_38 (by decide) ?_
        refine j_icmp_le K dX7_sheet_40 (fun c40 => ?_) (fun c40 => ?_)
        · replace h := it c40 h
          exact j_sub [1, 2, 3, 0] rfl (w_X7_sheet_46 K X h)
        · replace h := ie c40 h
          exact j_sub [] rfl (w_X7_sheet_43 K X h)
def F_X7_sheet (fu : Nat) (S : Hp) (o : Nat) (x1 : Int32) (x2 : Int32) (x3 : Int32) : Option (Int32 × Hp) :=
  (ob S 5 (some o)).bind fun _ =>
  b2 (F_X7_sheetAt S o x1) fun v2 S2 =>
  if x2 = (-1 : Int32) then
    B_X7_sheet_17 fu o S2 x2 x3 v2 (1 : Int32)
  else
    B_X7_sheet_17 fu o S2 x2 x3 v2 (0 : Int32)
set_option maxRecDepth 100000 in
set_option maxHeartbeats 4000000 in
theorem w_X7_sheet {E : Cx} {l : Launch} {res : Int32 × Hp} {ad : Nat → Nat} {fu : Nat} {S : Hp} {o : Nat} {x1 : Int32} {x2 : Int32} {x3 : Int32} (K : Kx E cX7_sheet RX7 (rmd 1 0 0)) (X : Bx E l yX7_sheet 6 (some .int) 0 0 ad (QI res)) (h : F_X7_sheet fu S o x1 x2 x3 = some res) : J E 0 0 0 [(0, vR (some o)), (1, vI x1), (2, vI x2), (3, vI x3)] [] S ad := by
  refine j_aload_n K dX7_sheet_0 rfl 0 rfl ?_
  refine j_iload_n K dX7_sheet_1 rfl 1 rfl ?_
  obtain ⟨w2, ew2, h⟩ := bd h
  have ho2 := obS ew2
  obtain ⟨v2, S2, e2, h⟩ := bd2 h
  refine j_cR (st := []) K (r_V (vs := [vI x1]) (n := 1) (o := o) K (c_X7_sheetAt e2) ho2 (by decide) rfl dX7_sheet_2 z674 z676 zs21 z1 z677 ⟨zd_X7_sheetAt, rfl, rfl, rfl, ⟨Nat.le_of_ble_eq_true rfl, Nat.le_of_ble_eq_true rfl⟩, Nat.le_of_ble_eq_true rfl, Nat.le_of_ble_eq_true rfl, Nat.le_of_ble_eq_true rfl⟩) rfl ?_
  refine j_astore (lv' := [(4, vR v2), (0, vR (some o)), (1, vI x1), (2, vI x2), (3, vI x3)]) K dX7_sheet_5 X.2.2.1 (by decide) rfl ?_
  refine j_iload_n K dX7_sheet_7 rfl 3 rfl ?_
  refine j_iconst (v := (-1 : Int32)) K dX7_sheet_8 (by decide) ?_
  refine j_icmp_ne K dX7_sheet_9 (fun c9 => ?_) (fun c9 => ?_)
  · replace h := ie c9 h
    refine j_iconst (v := (0 : Int32)) K dX7_sheet_16 (by decide) ?_
    exact j_sub [3, 4, 0] rfl (w_X7_sheet_17 K X h)
  · replace h := it c9 h
    refine j_iconst (v := (1 : Int32)) K dX7_sheet_12 (by decide) ?_
    refine j_goto K dX7_sheet_13 ?_
    exact j_sub [3, 4, 0] rfl (w_X7_sheet_17 K X h)
theorem c_X7_sheet {l : Launch} {fu : Nat} {S : Hp} {o : Nat} {x1 : Int32} {x2 : Int32} {x3 : Int32} {res : Int32 × Hp} (h : F_X7_sheet fu S o x1 x2 x3 = some res) : Ct l yX7_sheet cX7_sheet 6 (some .int) (rmd 1 0 0) 0 0 [vR (some o), vI x1, vI x2, vI x3] S (QI res) :=
  z_entry (by decide +kernel) (Nat.le_of_ble_eq_true rfl) (fun E ad K X => w_X7_sheet K X h)

theorem dX7_cell_0 : decode cX7_cell 0 = .ok (.aload_n 0, 1) ∧ 0 + 1 = 1 := ⟨by decide +kernel, rfl⟩
theorem dX7_cell_1 : decode cX7_cell 1 = .ok (.iload_n 1, 1) ∧ 1 + 1 = 2 := ⟨by decide +kernel, rfl⟩
theorem dX7_cell_2 : decode cX7_cell 2 = .ok (.invokevirtual 252, 3) := by decide +kernel
theorem dX7_cell_5 : decode cX7_cell 5 = .ok (.astore 4, 2) ∧ 5 + 2 = 7 := ⟨by decide +kernel, rfl⟩
theorem dX7_cell_7 : decode cX7_cell 7 = .ok (.aload 4, 2) ∧ 7 + 2 = 9 := ⟨by decide +kernel, rfl⟩
theorem dX7_cell_9 : decode cX7_cell 9 = .ok (.ifnonnull 6, 3) ∧ 9 + 3 = 12 ∧ ((9 : Nat) : Int) + (6) = ((15 : Nat) : Int) := ⟨by decide +kernel, rfl, by decide⟩
theorem dX7_cell_12 : decode cX7_cell 12 = .ok (.bipush (-2), 2) ∧ 12 + 2 = 14 := ⟨by decide +kernel, rfl⟩
theorem dX7_cell_14 : decode cX7_cell 14 = .ok (.ireturn, 1) := by decide +kernel
theorem dX7_cell_15 : decode cX7_cell 15 = .ok (.aload 4, 2) ∧ 15 + 2 = 17 := ⟨by decide +kernel, rfl⟩
theorem dX7_cell_17 : decode cX7_cell 17 = .ok (.invokevirtual 284, 3) := by decide +kernel
theorem dX7_cell_20 : decode cX7_cell 20 = .ok (.ifCond .eq 6, 3) ∧ 20 + 3 = 23 ∧ ((20 : Nat) : Int) + (6) = ((26 : Nat) : Int) := ⟨by decide +kernel, rfl, by decide⟩
theorem dX7_cell_23 : decode cX7_cell 23 = .ok (.bipush (-11), 2) ∧ 23 + 2 = 25 := ⟨by decide +kernel, rfl⟩
theorem dX7_cell_25 : decode cX7_cell 25 = .ok (.ireturn, 1) := by decide +kernel
theorem dX7_cell_26 : decode cX7_cell 26 = .ok (.aload 4, 2) ∧ 26 + 2 = 28 := ⟨by decide +kernel, rfl⟩
theorem dX7_cell_28 : decode cX7_cell 28 = .ok (.iload_n 2, 1) ∧ 28 + 1 = 29 := ⟨by decide +kernel, rfl⟩
theorem dX7_cell_29 : decode cX7_cell 29 = .ok (.iconst 1, 1) ∧ 29 + 1 = 30 := ⟨by decide +kernel, rfl⟩
theorem dX7_cell_30 : decode cX7_cell 30 = .ok (.invokevirtual 288, 3) := by decide +kernel
theorem dX7_cell_33 : decode cX7_cell 33 = .ok (.ifCond .ne 6, 3) ∧ 33 + 3 = 36 ∧ ((33 : Nat) : Int) + (6) = ((39 : Nat) : Int) := ⟨by decide +kernel, rfl, by decide⟩
theorem dX7_cell_36 : decode cX7_cell 36 = .ok (.bipush (-12), 2) ∧ 36 + 2 = 38 := ⟨by decide +kernel, rfl⟩
theorem dX7_cell_38 : decode cX7_cell 38 = .ok (.ireturn, 1) := by decide +kernel
theorem dX7_cell_39 : decode cX7_cell 39 = .ok (.aload 4, 2) ∧ 39 + 2 = 41 := ⟨by decide +kernel, rfl⟩
theorem dX7_cell_41 : decode cX7_cell 41 = .ok (.iload_n 2, 1) ∧ 41 + 1 = 42 := ⟨by decide +kernel, rfl⟩
theorem dX7_cell_42 : decode cX7_cell 42 = .ok (.iload_n 3, 1) ∧ 42 + 1 = 43 := ⟨by decide +kernel, rfl⟩
theorem dX7_cell_43 : decode cX7_cell 43 = .ok (.invokevirtual 274, 3) := by decide +kernel
theorem dX7_cell_46 : decode cX7_cell 46 = .ok (.iconst 1, 1) ∧ 46 + 1 = 47 := ⟨by decide +kernel, rfl⟩
theorem dX7_cell_47 : decode cX7_cell 47 = .ok (.ireturn, 1) := by decide +kernel
def F_X7_cell (S : Hp) (o : Nat) (x1 : Int32) (x2 : Int32) (x3 : Int32) : Option (Int32 × Hp) :=
  (ob S 5 (some o)).bind fun _ =>
  b2 (F_X7_sheetAt S o x1) fun v2 S2 =>
  if v2 = none then
    some ((-2 : Int32), S2)
  else
    (ob S2 3 v2).bind fun o17 =>
    b2 (F_X4_isMissing S2 o17) fun v17 S17 =>
    if v17 = 0 then
      (ob S17 3 (some o17)).bind fun _ =>
      b2 (F_X4_holds S17 o17 x2 (1 : Int32)) fun v30 S30 =>
      if v30 = 0 then
        some ((-12 : Int32), S30)
      else
        (ob S30 3 (some o17)).bind fun _ =>
        (F_X4_write S30 o17 x2 x3).bind fun S43 =>
        some ((1 : Int32), S43)
    else
      some ((-11 : Int32), S17)
set_option maxRecDepth 100000 in
set_option maxHeartbeats 4000000 in
theorem w_X7_cell {E : Cx} {l : Launch} {res : Int32 × Hp} {ad : Nat → Nat} {S : Hp} {o : Nat} {x1 : Int32} {x2 : Int32} {x3 : Int32} (K : Kx E cX7_cell RX7 (rmd 2 0 0)) (X : Bx E l yX7_cell 5 (some .int) 0 0 ad (QI res)) (h : F_X7_cell S o x1 x2 x3 = some res) : J E 0 0 0 [(0, vR (some o)), (1, vI x1), (2, vI x2), (3, vI x3)] [] S ad := by
  refine j_aload_n K dX7_cell_0 rfl 0 rfl ?_
  refine j_iload_n K dX7_cell_1 rfl 1 rfl ?_
  obtain ⟨w2, ew2, h⟩ := bd h
  have ho2 := obS ew2
  obtain ⟨v2, S2, e2, h⟩ := bd2 h
  refine j_cR (st := []) K (r_V (vs := [vI x1]) (n := 1) (o := o) K (c_X7_sheetAt e2) ho2 (by decide) rfl dX7_cell_2 z674 z676 zs21 z1 z677 ⟨zd_X7_sheetAt, rfl, rfl, rfl, ⟨Nat.le_of_ble_eq_true rfl, Nat.le_of_ble_eq_true rfl⟩, Nat.le_of_ble_eq_true rfl, Nat.le_of_ble_eq_true rfl, Nat.le_of_ble_eq_true rfl⟩) rfl ?_
  refine j_astore (lv' := [(4, vR v2), (0, vR (some o)), (1, vI x1), (2, vI x2), (3, vI x3)]) K dX7_cell_5 X.2.2.1 (by decide) rfl ?_
  refine j_aload K dX7_cell_7 0 rfl ?_
  refine j_ifnonnull K dX7_cell_9 (fun c9 => ?_) (fun c9 => ?_)
  · replace h := ie c9 h
    refine j_aload K dX7_cell_15 0 rfl ?_
    obtain ⟨o17, ew17, hz17⟩ := bd h
    obtain ⟨er17, ho17⟩ := ob_some ew17
    subst er17
    have h := hz17
    obtain ⟨v17, S17, e17, h⟩ := bd2 h
    refine j_cI (st := []) K (r_V (vs := []) (n := 0) (o := o17) K (c_X4_isMissing e17) ho17 (by decide) rfl dX7_cell_17 z682 z683 z684 z5 z685 ⟨zd_X4_isMissing, rfl, rfl, rfl, ⟨Nat.le_of_ble_eq_true rfl, Nat.le_of_ble_eq_true rfl⟩, Nat.le_of_ble_eq_true rfl, Nat.le_of_ble_eq_true rfl, Nat.le_of_ble_eq_true rfl⟩) rfl ?_
    refine j_if_eq K dX7_cell_20 (fun c20 => ?_) (fun c20 => ?_)
    · replace h := it c20 h
      refine j_aload K dX7_cell_26 0 rfl ?_
      refine j_iload_n K dX7_cell_28 rfl 3 rfl ?_
      refine j_iconst (v := (1 : Int32)) K dX7_cell_29 (by decide) ?_
      obtain ⟨w30, ew30, h⟩ := bd h
      have ho30 := obS ew30
      obtain ⟨v30, S30, e30, h⟩ := bd2 h
      refine j_cI (st := []) K (r_V (vs := [vI x2, vI (1 : Int32)]) (n := 2) (o := o17) K (c_X4_holds e30) ho30 (by decide) rfl dX7_cell_30 z774 z695 z696 z5 z697 ⟨zd_X4_holds, rfl, rfl, rfl, ⟨Nat.le_of_ble_eq_true rfl, Nat.le_of_ble_eq_true rfl⟩, Nat.le_of_ble_eq_true rfl, Nat.le_of_ble_eq_true rfl, Nat.le_of_ble_eq_true rfl⟩) rfl ?_
      refine j_if_ne K dX7_cell_33 (fun c33 => ?_) (fun c33 => ?_)
      · replace h := ie c33 h
        refine j_aload K dX7_cell_39 0 rfl ?_
        refine j_iload_n K dX7_cell_41 rfl 3 rfl ?_
        refine j_iload_n K dX7_cell_42 rfl 4 rfl ?_
        obtain ⟨w43, ew43, h⟩ := bd h
        have ho43 := obS ew43
        obtain ⟨S43, e43, h⟩ := bd h
        refine j_cV (st := []) K (r_V (vs := [vI x2, vI x3]) (n := 2) (o := o17) K (c_X4_write e43) ho43 (by decide) rfl dX7_cell_43 z732 z733 z734 z5 z735 ⟨zd_X4_write, rfl, rfl, rfl, ⟨Nat.le_of_ble_eq_true rfl, Nat.le_of_ble_eq_true rfl⟩, Nat.le_of_ble_eq_true rfl, Nat.le_of_ble_eq_true rfl, Nat.le_of_ble_eq_true rfl⟩) rfl ?_
        refine j_iconst (v := (1 : Int32)) K dX7_cell_46 (by decide) ?_
        exact j_iret K X dX7_cell_47 h
      · replace h := it c33 h
        refine j_bipush (v := (-12 : Int32)) K dX7_cell_36 (by decide) ?_
        exact j_iret K X dX7_cell_38 h
    · replace h := ie c20 h
      refine j_bipush (v := (-11 : Int32)) K dX7_cell_23 (by decide) ?_
      exact j_iret K X dX7_cell_25 h
  · replace h := it c9 h
    refine j_bipush (v := (-2 : Int32)) K dX7_cell_12 (by decide) ?_
    exact j_iret K X dX7_cell_14 h
theorem c_X7_cell {l : Launch} {S : Hp} {o : Nat} {x1 : Int32} {x2 : Int32} {x3 : Int32} {res : Int32 × Hp} (h : F_X7_cell S o x1 x2 x3 = some res) : Ct l yX7_cell cX7_cell 5 (some .int) (rmd 2 0 0) 0 0 [vR (some o), vI x1, vI x2, vI x3] S (QI res) :=
  z_entry (by decide +kernel) (Nat.le_of_ble_eq_true rfl) (fun E ad K X => w_X7_cell K X h)

theorem dX7_copy_0 : decode cX7_copy 0 = .ok (.aload_n 0, 1) ∧ 0 + 1 = 1 := ⟨by decide +kernel, rfl⟩
theorem dX7_copy_1 : decode cX7_copy 1 = .ok (.iload_n 1, 1) ∧ 1 + 1 = 2 := ⟨by decide +kernel, rfl⟩
theorem dX7_copy_2 : decode cX7_copy 2 = .ok (.invokevirtual 252, 3) := by decide +kernel
theorem dX7_copy_5 : decode cX7_copy 5 = .ok (.astore 6, 2) ∧ 5 + 2 = 7 := ⟨by decide +kernel, rfl⟩
theorem dX7_copy_7 : decode cX7_copy 7 = .ok (.aload_n 0, 1) ∧ 7 + 1 = 8 := ⟨by decide +kernel, rfl⟩
theorem dX7_copy_8 : decode cX7_copy 8 = .ok (.iload_n 3, 1) ∧ 8 + 1 = 9 := ⟨by decide +kernel, rfl⟩
theorem dX7_copy_9 : decode cX7_copy 9 = .ok (.invokevirtual 252, 3) := by decide +kernel
theorem dX7_copy_12 : decode cX7_copy 12 = .ok (.astore 7, 2) ∧ 12 + 2 = 14 := ⟨by decide +kernel, rfl⟩
theorem dX7_copy_14 : decode cX7_copy 14 = .ok (.aload 6, 2) ∧ 14 + 2 = 16 := ⟨by decide +kernel, rfl⟩
theorem dX7_copy_16 : decode cX7_copy 16 = .ok (.ifnull 8, 3) ∧ 16 + 3 = 19 ∧ ((16 : Nat) : Int) + (8) = ((24 : Nat) : Int) := ⟨by decide +kernel, rfl, by decide⟩
theorem dX7_copy_19 : decode cX7_copy 19 = .ok (.aload 7, 2) ∧ 19 + 2 = 21 := ⟨by decide +kernel, rfl⟩
theorem dX7_copy_21 : decode cX7_copy 21 = .ok (.ifnonnull 6, 3) ∧ 21 + 3 = 24 ∧ ((21 : Nat) : Int) + (6) = ((27 : Nat) : Int) := ⟨by decide +kernel, rfl, by decide⟩
theorem dX7_copy_24 : decode cX7_copy 24 = .ok (.bipush (-2), 2) ∧ 24 + 2 = 26 := ⟨by decide +kernel, rfl⟩
theorem dX7_copy_26 : decode cX7_copy 26 = .ok (.ireturn, 1) := by decide +kernel
theorem dX7_copy_27 : decode cX7_copy 27 = .ok (.aload 6, 2) ∧ 27 + 2 = 29 := ⟨by decide +kernel, rfl⟩
theorem dX7_copy_29 : decode cX7_copy 29 = .ok (.invokevirtual 284, 3) := by decide +kernel
theorem dX7_copy_32 : decode cX7_copy 32 = .ok (.ifCond .ne 11, 3) ∧ 32 + 3 = 35 ∧ ((32 : Nat) : Int) + (11) = ((43 : Nat) : Int) := ⟨by decide +kernel, rfl, by decide⟩
theorem dX7_copy_35 : decode cX7_copy 35 = .ok (.aload 7, 2) ∧ 35 + 2 = 37 := ⟨by decide +kernel, rfl⟩
theorem dX7_copy_37 : decode cX7_copy 37 = .ok (.invokevirtual 284, 3) := by decide +kernel
theorem dX7_copy_40 : decode cX7_copy 40 = .ok (.ifCond .eq 6, 3) ∧ 40 + 3 = 43 ∧ ((40 : Nat) : Int) + (6) = ((46 : Nat) : Int) := ⟨by decide +kernel, rfl, by decide⟩
theorem dX7_copy_43 : decode cX7_copy 43 = .ok (.bipush (-11), 2) ∧ 43 + 2 = 45 := ⟨by decide +kernel, rfl⟩
theorem dX7_copy_45 : decode cX7_copy 45 = .ok (.ireturn, 1) := by decide +kernel
theorem dX7_copy_46 : decode cX7_copy 46 = .ok (.aload 6, 2) ∧ 46 + 2 = 48 := ⟨by decide +kernel, rfl⟩
theorem dX7_copy_48 : decode cX7_copy 48 = .ok (.getfield 291, 3) ∧ 48 + 3 = 51 := ⟨by decide +kernel, rfl⟩
theorem dX7_copy_51 : decode cX7_copy 51 = .ok (.aload 7, 2) ∧ 51 + 2 = 53 := ⟨by decide +kernel, rfl⟩
theorem dX7_copy_53 : decode cX7_copy 53 = .ok (.getfield 291, 3) ∧ 53 + 3 = 56 := ⟨by decide +kernel, rfl⟩
theorem dX7_copy_56 : decode cX7_copy 56 = .ok (.if_icmp .eq 6, 3) ∧ 56 + 3 = 59 ∧ ((56 : Nat) : Int) + (6) = ((62 : Nat) : Int) := ⟨by decide +kernel, rfl, by decide⟩
theorem dX7_copy_59 : decode cX7_copy 59 = .ok (.bipush (-13), 2) ∧ 59 + 2 = 61 := ⟨by decide +kernel, rfl⟩
theorem dX7_copy_61 : decode cX7_copy 61 = .ok (.ireturn, 1) := by decide +kernel
theorem dX7_copy_62 : decode cX7_copy 62 = .ok (.aload 6, 2) ∧ 62 + 2 = 64 := ⟨by decide +kernel, rfl⟩
theorem dX7_copy_64 : decode cX7_copy 64 = .ok (.iload_n 2, 1) ∧ 64 + 1 = 65 := ⟨by decide +kernel, rfl⟩
theorem dX7_copy_65 : decode cX7_copy 65 = .ok (.iload 5, 2) ∧ 65 + 2 = 67 := ⟨by decide +kernel, rfl⟩
theorem dX7_copy_67 : decode cX7_copy 67 = .ok (.invokevirtual 288, 3) := by decide +kernel
theorem dX7_copy_70 : decode cX7_copy 70 = .ok (.ifCond .eq 15, 3) ∧ 70 + 3 = 73 ∧ ((70 : Nat) : Int) + (15) = ((85 : Nat) : Int) := ⟨by decide +kernel, rfl, by decide⟩
theorem dX7_copy_73 : decode cX7_copy 73 = .ok (.aload 7, 2) ∧ 73 + 2 = 75 := ⟨by decide +kernel, rfl⟩
theorem dX7_copy_75 : decode cX7_copy 75 = .ok (.iload 4, 2) ∧ 75 + 2 = 77 := ⟨by decide +kernel, rfl⟩
theorem dX7_copy_77 : decode cX7_copy 77 = .ok (.iload 5, 2) ∧ 77 + 2 = 79 := ⟨by decide +kernel, rfl⟩
theorem dX7_copy_79 : decode cX7_copy 79 = .ok (.invokevirtual 288, 3) := by decide +kernel
theorem dX7_copy_82 : decode cX7_copy 82 = .ok (.ifCond .ne 6, 3) ∧ 82 + 3 = 85 ∧ ((82 : Nat) : Int) + (6) = ((88 : Nat) : Int) := ⟨by decide +kernel, rfl, by decide⟩
theorem dX7_copy_85 : decode cX7_copy 85 = .ok (.bipush (-12), 2) ∧ 85 + 2 = 87 := ⟨by decide +kernel, rfl⟩
theorem dX7_copy_87 : decode cX7_copy 87 = .ok (.ireturn, 1) := by decide +kernel
theorem dX7_copy_88 : decode cX7_copy 88 = .ok (.aload 6, 2) ∧ 88 + 2 = 90 := ⟨by decide +kernel, rfl⟩
theorem dX7_copy_90 : decode cX7_copy 90 = .ok (.getfield 294, 3) ∧ 90 + 3 = 93 := ⟨by decide +kernel, rfl⟩
theorem dX7_copy_93 : decode cX7_copy 93 = .ok (.iload_n 2, 1) ∧ 93 + 1 = 94 := ⟨by decide +kernel, rfl⟩
theorem dX7_copy_94 : decode cX7_copy 94 = .ok (.aload 7, 2) ∧ 94 + 2 = 96 := ⟨by decide +kernel, rfl⟩
theorem dX7_copy_96 : decode cX7_copy 96 = .ok (.getfield 294, 3) ∧ 96 + 3 = 99 := ⟨by decide +kernel, rfl⟩
theorem dX7_copy_99 : decode cX7_copy 99 = .ok (.iload 4, 2) ∧ 99 + 2 = 101 := ⟨by decide +kernel, rfl⟩
theorem dX7_copy_101 : decode cX7_copy 101 = .ok (.iload 5, 2) ∧ 101 + 2 = 103 := ⟨by decide +kernel, rfl⟩
theorem dX7_copy_103 : decode cX7_copy 103 = .ok (.invokestatic 297, 3) ∧ 103 + 3 = 106 := ⟨by decide +kernel, rfl⟩
theorem dX7_copy_106 : decode cX7_copy 106 = .ok (.iload 5, 2) ∧ 106 + 2 = 108 := ⟨by decide +kernel, rfl⟩
theorem dX7_copy_108 : decode cX7_copy 108 = .ok (.ireturn, 1) := by decide +kernel
def B_X7_copy_24 (o : Nat) (S : Hp) : Option (Int32 × Hp) :=
  some ((-2 : Int32), S)
set_option maxRecDepth 100000 in
set_option maxHeartbeats 4000000 in
theorem w_X7_copy_24 {E : Cx} {l : Launch} {res : Int32 × Hp} {ad : Nat → Nat} {o : Nat} {S : Hp} (K : Kx E cX7_copy RX7 (rmd 1 0 0)) (X : Bx E l yX7_copy 8 (some .int) 0 0 ad (QI res)) (h : B_X7_copy_24 o S = some res) : J E 0 0 24 [] [] S ad := by
  refine j_bipush (v := (-2 : Int32)) K dX7_copy_24 (by decide) ?_
  exact j_iret K X dX7_copy_26 h
def B_X7_copy_43 (o : Nat) (S : Hp) : Option (Int32 × Hp) :=
  some ((-11 : Int32), S)
set_option maxRecDepth 100000 in
set_option maxHeartbeats 4000000 in
theorem w_X7_copy_43 {E : Cx} {l : Launch} {res : Int32 × Hp} {ad : Nat → Nat} {o : Nat} {S : Hp} (K : Kx E cX7_copy RX7 (rmd 1 0 0)) (X : Bx E l yX7_copy 8 (some .int) 0 0 ad (QI res)) (h : B_X7_copy_43 o S = some res) : J E 0 0 43 [] [] S ad := by
  refine j_bipush (v := (-11 : Int32)) K dX7_copy_43 (by decide) ?_
  exact j_iret K X dX7_copy_45 h
def B_X7_copy_85 (o : Nat) (S : Hp) : Option (Int32 × Hp) :=
  some ((-12 : Int32), S)
set_option maxRecDepth 100000 in
set_option maxHeartbeats 4000000 in
theorem w_X7_copy_85 {E : Cx} {l : Launch} {res : Int32 × Hp} {ad : Nat → Nat} {o : Nat} {S : Hp} (K : Kx E cX7_copy RX7 (rmd 1 0 0)) (X : Bx E l yX7_copy 8 (some .int) 0 0 ad (QI res)) (h : B_X7_copy_85 o S = some res) : J E 0 0 85 [] [] S ad := by
  refine j_bipush (v := (-12 : Int32)) K dX7_copy_85 (by decide) ?_
  exact j_iret K X dX7_copy_87 h
def F_X7_copy (S : Hp) (o : Nat) (x1 : Int32) (x2 : Int32) (x3 : Int32) (x4 : Int32) (x5 : Int32) : Option (Int32 × Hp) :=
  (ob S 5 (some o)).bind fun _ =>
  b2 (F_X7_sheetAt S o x1) fun v2 S2 =>
  (ob S2 5 (some o)).bind fun _ =>
  b2 (F_X7_sheetAt S2 o x3) fun v9 S9 =>
  if v2 = none then
    B_X7_copy_24 o S9
  else
    if v9 = none then
      B_X7_copy_24 o S9
    else
      (ob S9 3 v2).bind fun o29 =>
      b2 (F_X4_isMissing S9 o29) fun v29 S29 =>
      if v29 = 0 then
        (ob S29 3 v9).bind fun o37 =>
        b2 (F_X4_isMissing S29 o37) fun v37 S37 =>
        if v37 = 0 then
          (gI S37 (some o29) 3 0).bind fun v48 =>
          (gI S37 (some o37) 3 0).bind fun v53 =>
          if v48 = v53 then
            (ob S37 3 (some o29)).bind fun _ =>
            b2 (F_X4_holds S37 o29 x2 x5) fun v67 S67 =>
            if v67 = 0 then
              B_X7_copy_85 o S67
            else
              (ob S67 3 (some o37)).bind fun _ =>
              b2 (F_X4_holds S67 o37 x4 x5) fun v79 S79 =>
              if v79 = 0 then
                B_X7_copy_85 o S79
              else
                (gR S79 (some o29) 3 2).bind fun v90 =>
                (gR S79 (some o37) 3 2).bind fun v96 =>
                (cpyO S79 v90 x2 v96 x4 x5).bind fun S103 =>
                some (x5, S103)
          else
            some ((-13 : Int32), S37)
        else
          B_X7_copy_43 o S37
      else
        B_X7_copy_43 o S29
set_option maxRecDepth 100000 in
set_option maxHeartbeats 4000000 in
theorem w_X7_copy {E : Cx} {l : Launch} {res : Int32 × Hp} {ad : Nat → Nat} {S : Hp} {o : Nat} {x1 : Int32} {x2 : Int32} {x3 : Int32} {x4 : Int32} {x5 : Int32} (K : Kx E cX7_copy RX7 (rmd 1 0 0)) (X : Bx E l yX7_copy 8 (some .int) 0 0 ad (QI res)) (h : F_X7_copy S o x1 x2 x3 x4 x5 = some res) : J E 0 0 0 [(0, vR (some o)), (1, vI x1), (2, vI x2), (3, vI x3), (4, vI x4), (5, vI x5)] [] S ad := by
  refine j_aload_n K dX7_copy_0 rfl 0 rfl ?_
  refine j_iload_n K dX7_copy_1 rfl 1 rfl ?_
  obtain ⟨w2, ew2, h⟩ := bd h
  have ho2 := obS ew2
  obtain ⟨v2, S2, e2, h⟩ := bd2 h
  refine j_cR (st := []) K (r_V (vs := [vI x1]) (n := 1) (o := o) K (c_X7_sheetAt e2) ho2 (by decide) rfl dX7_copy_2 z674 z676 zs21 z1 z677 ⟨zd_X7_sheetAt, rfl, rfl, rfl, ⟨Nat.le_of_ble_eq_true rfl, Nat.le_of_ble_eq_true rfl⟩, Nat.le_of_ble_eq_true rfl, Nat.le_of_ble_eq_true rfl, Nat.le_of_ble_eq_true rfl⟩) rfl ?_
  refine j_astore (lv' := [(6, vR v2), (0, vR (some o)), (1, vI x1), (2, vI x2), (3, vI x3), (4, vI x4), (5, vI x5)]) K dX7_copy_5 X.2.2.1 (by decide) rfl ?_
  refine j_aload_n K dX7_copy_7 rfl 1 rfl ?_
  refine j_iload_n K dX7_copy_8 rfl 4 rfl ?_
  obtain ⟨w9, ew9, h⟩ := bd h
  have ho9 := obS ew9
  obtain ⟨v9, S9, e9, h⟩ := bd2 h
  refine j_cR (st := []) K (r_V (vs := [vI x3]) (n := 1) (o := o) K (c_X7_sheetAt e9) ho9 (by decide) rfl dX7_copy_9 z674 z676 zs21 z1 z677 ⟨zd_X7_sheetAt, rfl, rfl, rfl, ⟨Nat.le_of_ble_eq_true rfl, Nat.le_of_ble_eq_true rfl⟩, Nat.le_of_ble_eq_true rfl, Nat.le_of_ble_eq_true rfl, Nat.le_of_ble_eq_true rfl⟩) rfl ?_
  refine j_astore (lv' := [(7, vR v9), (6, vR v2), (0, vR (some o)), (1, vI x1), (2, vI x2), (3, vI x3), (4, vI x4), (5, vI x5)]) K dX7_copy_12 X.2.2.1 (by decide) rfl ?_
  refine j_aload K dX7_copy_14 1 rfl ?_
  refine j_ifnull K dX7_copy_16 (fun c16 => ?_) (fun c16 => ?_)
  · replace h := it c16 h
    exact j_sub [] rfl (w_X7_copy_24 K X h)
  · replace h := ie c16 h
    refine j_aload K dX7_copy_19 0 rfl ?_
    refine j_ifnonnull K dX7_copy_21 (fun c21 => ?_) (fun c21 => ?_)
    · replace h := ie c21 h
      refine j_aload K dX7_copy_27 1 rfl ?_
      obtain ⟨o29, ew29, hz29⟩ := bd h
      obtain ⟨er29, ho29⟩ := ob_some ew29
      subst er29
      have h := hz29
      obtain ⟨v29, S29, e29, h⟩ := bd2 h
      refine j_cI (st := []) K (r_V (vs := []) (n := 0) (o := o29) K (c_X4_isMissing e29) ho29 (by decide) rfl dX7_copy_29 z682 z683 z684 z5 z685 ⟨zd_X4_isMissing, rfl, rfl, rfl, ⟨Nat.le_of_ble_eq_true rfl, Nat.le_of_ble_eq_true rfl⟩, Nat.le_of_ble_eq_true rfl, Nat.le_of_ble_eq_true rfl, Nat.le_of_ble_eq_true rfl⟩) rfl ?_
      refine j_if_ne K dX7_copy_32 (fun c32 => ?_) (fun c32 => ?_)
      · replace h := ie c32 h
        exact j_sub [] rfl (w_X7_copy_43 K X h)
      · replace h := it c32 h
        refine j_aload K dX7_copy_35 0 rfl ?_
        obtain ⟨o37, ew37, hz37⟩ := bd h
        obtain ⟨er37, ho37⟩ := ob_some ew37
        subst er37
        have h := hz37
        obtain ⟨v37, S37, e37, h⟩ := bd2 h
        refine j_cI (st := []) K (r_V (vs := []) (n := 0) (o := o37) K (c_X4_isMissing e37) ho37 (by decide) rfl dX7_copy_37 z682 z683 z684 z5 z685 ⟨zd_X4_isMissing, rfl, rfl, rfl, ⟨Nat.le_of_ble_eq_true rfl, Nat.le_of_ble_eq_true rfl⟩, Nat.le_of_ble_eq_true rfl, Nat.le_of_ble_eq_true rfl, Nat.le_of_ble_eq_true rfl⟩) rfl ?_
        refine j_if_eq K dX7_copy_40 (fun c40 => ?_) (fun c40 => ?_)
        · replace h := it c40 h
          refine j_aload K dX7_copy_46 1 rfl ?_
          obtain ⟨v48, e48, h⟩ := bd h
          refine fgX7_291 K dX7_copy_48 e48 ?_
          refine j_aload K dX7_copy_51 0 rfl ?_
          obtain ⟨v53, e53, h⟩ := bd h
          refine fgX7_291 K dX7_copy_53 e53 ?_
          refine j_icmp_eq K dX7_copy_56 (fun c56 => ?_) (fun c56 => ?_)
          · replace h := it c56 h
            refine j_aload K dX7_copy_62 1 rfl ?_
            refine j_iload_n K dX7_copy_64 rfl 4 rfl ?_
            refine j_iload K dX7_copy_65 7 rfl ?_
            obtain ⟨w67, ew67, h⟩ := bd h
            have ho67 := obS ew67
            obtain ⟨v67, S67, e67, h⟩ := bd2 h
            refine j_cI (st := []) K (r_V (vs := [vI x2, vI x5]) (n := 2) (o := o29) K (c_X4_holds e67) ho67 (by decide) rfl dX7_copy_67 z774 z695 z696 z5 z697 ⟨zd_X4_holds, rfl, rfl, rfl, ⟨Nat.le_of_ble_eq_true rfl, Nat.le_of_ble_eq_true rfl⟩, Nat.le_of_ble_eq_true rfl, Nat.le_of_ble_eq_true rfl, Nat.le_of_ble_eq_true rfl⟩) rfl ?_
            refine j_if_eq K dX7_copy_70 (fun c70 => ?_) (fun c70 => ?_)
            · replace h := it c70 h
              exact j_sub [] rfl (w_X7_copy_85 K X h)
            · replace h := ie c70 h
              refine j_aload K dX7_copy_73 0 rfl ?_
              refine j_iload K dX7_copy_75 6 rfl ?_
              refine j_iload K dX7_copy_77 7 rfl ?_
              obtain ⟨w79, ew79, h⟩ := bd h
              have ho79 := obS ew79
              obtain ⟨v79, S79, e79, h⟩ := bd2 h
              refine j_cI (st := []) K (r_V (vs := [vI x4, vI x5]) (n := 2) (o := o37) K (c_X4_holds e79) ho79 (by decide) rfl dX7_copy_79 z774 z695 z696 z5 z697 ⟨zd_X4_holds, rfl, rfl, rfl, ⟨Nat.le_of_ble_eq_true rfl, Nat.le_of_ble_eq_true rfl⟩, Nat.le_of_ble_eq_true rfl, Nat.le_of_ble_eq_true rfl, Nat.le_of_ble_eq_true rfl⟩) rfl ?_
              refine j_if_ne K dX7_copy_82 (fun c82 => ?_) (fun c82 => ?_)
              · replace h := ie c82 h
                refine j_aload K dX7_copy_88 1 rfl ?_
                obtain ⟨v90, e90, h⟩ := bd h
                refine fgX7_294 K dX7_copy_90 e90 ?_
                refine j_iload_n K dX7_copy_93 rfl 4 rfl ?_
                refine j_aload K dX7_copy_94 0 rfl ?_
                obtain ⟨v96, e96, h⟩ := bd h
                refine fgX7_294 K dX7_copy_96 e96 ?_
                refine j_iload K dX7_copy_99 6 rfl ?_
                refine j_iload K dX7_copy_101 7 rfl ?_
                obtain ⟨S103, e103, h⟩ := bd h
                refine j_cpy K dX7_copy_103 z779 z781 z780 z16 (Nat.le_of_ble_eq_true rfl) (by decide) (Nat.le_of_ble_eq_true rfl) e103 ?_
                refine j_iload K dX7_copy_106 7 rfl ?_
                exact j_iret K X dX7_copy_108 h
              · replace h := it c82 h
                exact j_sub [] rfl (w_X7_copy_85 K X h)
          · replace h := ie c56 h
            refine j_bipush (v := (-13 : Int32)) K dX7_copy_59 (by decide) ?_
            exact j_iret K X dX7_copy_61 h
        · replace h := ie c40 h
          exact j_sub [] rfl (w_X7_copy_43 K X h)
    · replace h := it c21 h
      exact j_sub [] rfl (w_X7_copy_24 K X h)
theorem c_X7_copy {l : Launch} {S : Hp} {o : Nat} {x1 : Int32} {x2 : Int32} {x3 : Int32} {x4 : Int32} {x5 : Int32} {res : Int32 × Hp} (h : F_X7_copy S o x1 x2 x3 x4 x5 = some res) : Ct l yX7_copy cX7_copy 8 (some .int) (rmd 1 0 0) 0 0 [vR (some o), vI x1, vI x2, vI x3, vI x4, vI x5] S (QI res) :=
  z_entry (by decide +kernel) (Nat.le_of_ble_eq_true rfl) (fun E ad K X => w_X7_copy K X h)

theorem dX7_peopleBy_0 : decode cX7_peopleBy 0 = .ok (.aload_n 0, 1) ∧ 0 + 1 = 1 := ⟨by decide +kernel, rfl⟩
theorem dX7_peopleBy_1 : decode cX7_peopleBy 1 = .ok (.iload_n 1, 1) ∧ 1 + 1 = 2 := ⟨by decide +kernel, rfl⟩
theorem dX7_peopleBy_2 : decode cX7_peopleBy 2 = .ok (.invokevirtual 252, 3) := by decide +kernel
theorem dX7_peopleBy_5 : decode cX7_peopleBy 5 = .ok (.astore 5, 2) ∧ 5 + 2 = 7 := ⟨by decide +kernel, rfl⟩
theorem dX7_peopleBy_7 : decode cX7_peopleBy 7 = .ok (.aload 5, 2) ∧ 7 + 2 = 9 := ⟨by decide +kernel, rfl⟩
theorem dX7_peopleBy_9 : decode cX7_peopleBy 9 = .ok (.ifnull 23, 3) ∧ 9 + 3 = 12 ∧ ((9 : Nat) : Int) + (23) = ((32 : Nat) : Int) := ⟨by decide +kernel, rfl, by decide⟩
theorem dX7_peopleBy_12 : decode cX7_peopleBy 12 = .ok (.iload_n 2, 1) ∧ 12 + 1 = 13 := ⟨by decide +kernel, rfl⟩
theorem dX7_peopleBy_13 : decode cX7_peopleBy 13 = .ok (.iconst 3, 1) ∧ 13 + 1 = 14 := ⟨by decide +kernel, rfl⟩
theorem dX7_peopleBy_14 : decode cX7_peopleBy 14 = .ok (.invokestatic 135, 3) := by decide +kernel
theorem dX7_peopleBy_17 : decode cX7_peopleBy 17 = .ok (.ifCond .eq 15, 3) ∧ 17 + 3 = 20 ∧ ((17 : Nat) : Int) + (15) = ((32 : Nat) : Int) := ⟨by decide +kernel, rfl, by decide⟩
theorem dX7_peopleBy_20 : decode cX7_peopleBy 20 = .ok (.iload 4, 2) ∧ 20 + 2 = 22 := ⟨by decide +kernel, rfl⟩
theorem dX7_peopleBy_22 : decode cX7_peopleBy 22 = .ok (.ifCond .lt 10, 3) ∧ 22 + 3 = 25 ∧ ((22 : Nat) : Int) + (10) = ((32 : Nat) : Int) := ⟨by decide +kernel, rfl, by decide⟩
theorem dX7_peopleBy_25 : decode cX7_peopleBy 25 = .ok (.iload 4, 2) ∧ 25 + 2 = 27 := ⟨by decide +kernel, rfl⟩
theorem dX7_peopleBy_27 : decode cX7_peopleBy 27 = .ok (.bipush 6, 2) ∧ 27 + 2 = 29 := ⟨by decide +kernel, rfl⟩
theorem dX7_peopleBy_29 : decode cX7_peopleBy 29 = .ok (.if_icmp .le 6, 3) ∧ 29 + 3 = 32 ∧ ((29 : Nat) : Int) + (6) = ((35 : Nat) : Int) := ⟨by decide +kernel, rfl, by decide⟩
theorem dX7_peopleBy_32 : decode cX7_peopleBy 32 = .ok (.bipush (-2), 2) ∧ 32 + 2 = 34 := ⟨by decide +kernel, rfl⟩
theorem dX7_peopleBy_34 : decode cX7_peopleBy 34 = .ok (.ireturn, 1) := by decide +kernel
theorem dX7_peopleBy_35 : decode cX7_peopleBy 35 = .ok (.aload 5, 2) ∧ 35 + 2 = 37 := ⟨by decide +kernel, rfl⟩
theorem dX7_peopleBy_37 : decode cX7_peopleBy 37 = .ok (.invokevirtual 284, 3) := by decide +kernel
theorem dX7_peopleBy_40 : decode cX7_peopleBy 40 = .ok (.ifCond .eq 6, 3) ∧ 40 + 3 = 43 ∧ ((40 : Nat) : Int) + (6) = ((46 : Nat) : Int) := ⟨by decide +kernel, rfl, by decide⟩
theorem dX7_peopleBy_43 : decode cX7_peopleBy 43 = .ok (.bipush (-11), 2) ∧ 43 + 2 = 45 := ⟨by decide +kernel, rfl⟩
theorem dX7_peopleBy_45 : decode cX7_peopleBy 45 = .ok (.ireturn, 1) := by decide +kernel
theorem dX7_peopleBy_46 : decode cX7_peopleBy 46 = .ok (.aload 5, 2) ∧ 46 + 2 = 48 := ⟨by decide +kernel, rfl⟩
theorem dX7_peopleBy_48 : decode cX7_peopleBy 48 = .ok (.getfield 291, 3) ∧ 48 + 3 = 51 := ⟨by decide +kernel, rfl⟩
theorem dX7_peopleBy_51 : decode cX7_peopleBy 51 = .ok (.iload_n 2, 1) ∧ 51 + 1 = 52 := ⟨by decide +kernel, rfl⟩
theorem dX7_peopleBy_52 : decode cX7_peopleBy 52 = .ok (.if_icmp .eq 6, 3) ∧ 52 + 3 = 55 ∧ ((52 : Nat) : Int) + (6) = ((58 : Nat) : Int) := ⟨by decide +kernel, rfl, by decide⟩
theorem dX7_peopleBy_55 : decode cX7_peopleBy 55 = .ok (.bipush (-13), 2) ∧ 55 + 2 = 57 := ⟨by decide +kernel, rfl⟩
theorem dX7_peopleBy_57 : decode cX7_peopleBy 57 = .ok (.ireturn, 1) := by decide +kernel
theorem dX7_peopleBy_58 : decode cX7_peopleBy 58 = .ok (.iconst 0, 1) ∧ 58 + 1 = 59 := ⟨by decide +kernel, rfl⟩
theorem dX7_peopleBy_59 : decode cX7_peopleBy 59 = .ok (.istore 6, 2) ∧ 59 + 2 = 61 := ⟨by decide +kernel, rfl⟩
theorem dX7_peopleBy_61 : decode cX7_peopleBy 61 = .ok (.iconst 0, 1) ∧ 61 + 1 = 62 := ⟨by decide +kernel, rfl⟩
theorem dX7_peopleBy_62 : decode cX7_peopleBy 62 = .ok (.istore 7, 2) ∧ 62 + 2 = 64 := ⟨by decide +kernel, rfl⟩
theorem dX7_peopleBy_64 : decode cX7_peopleBy 64 = .ok (.iload 7, 2) ∧ 64 + 2 = 66 := ⟨by decide +kernel, rfl⟩
theorem dX7_peopleBy_66 : decode cX7_peopleBy 66 = .ok (.iload 4, 2) ∧ 66 + 2 = 68 := ⟨by decide +kernel, rfl⟩
theorem dX7_peopleBy_68 : decode cX7_peopleBy 68 = .ok (.if_icmp .ge 57, 3) ∧ 68 + 3 = 71 ∧ ((68 : Nat) : Int) + (57) = ((125 : Nat) : Int) := ⟨by decide +kernel, rfl, by decide⟩
theorem dX7_peopleBy_71 : decode cX7_peopleBy 71 = .ok (.iload_n 3, 1) ∧ 71 + 1 = 72 := ⟨by decide +kernel, rfl⟩
theorem dX7_peopleBy_72 : decode cX7_peopleBy 72 = .ok (.iconst 2, 1) ∧ 72 + 1 = 73 := ⟨by decide +kernel, rfl⟩
theorem dX7_peopleBy_73 : decode cX7_peopleBy 73 = .ok (.iload 7, 2) ∧ 73 + 2 = 75 := ⟨by decide +kernel, rfl⟩
theorem dX7_peopleBy_75 : decode cX7_peopleBy 75 = .ok (.imul, 1) ∧ 75 + 1 = 76 := ⟨by decide +kernel, rfl⟩
theorem dX7_peopleBy_76 : decode cX7_peopleBy 76 = .ok (.iadd, 1) ∧ 76 + 1 = 77 := ⟨by decide +kernel, rfl⟩
theorem dX7_peopleBy_77 : decode cX7_peopleBy 77 = .ok (.istore 8, 2) ∧ 77 + 2 = 79 := ⟨by decide +kernel, rfl⟩
theorem dX7_peopleBy_79 : decode cX7_peopleBy 79 = .ok (.aload 5, 2) ∧ 79 + 2 = 81 := ⟨by decide +kernel, rfl⟩
theorem dX7_peopleBy_81 : decode cX7_peopleBy 81 = .ok (.iload 8, 2) ∧ 81 + 2 = 83 := ⟨by decide +kernel, rfl⟩
theorem dX7_peopleBy_83 : decode cX7_peopleBy 83 = .ok (.iconst 2, 1) ∧ 83 + 1 = 84 := ⟨by decide +kernel, rfl⟩
theorem dX7_peopleBy_84 : decode cX7_peopleBy 84 = .ok (.invokevirtual 288, 3) := by decide +kernel
theorem dX7_peopleBy_87 : decode cX7_peopleBy 87 = .ok (.ifCond .ne 6, 3) ∧ 87 + 3 = 90 ∧ ((87 : Nat) : Int) + (6) = ((93 : Nat) : Int) := ⟨by decide +kernel, rfl, by decide⟩
theorem dX7_peopleBy_90 : decode cX7_peopleBy 90 = .ok (.bipush (-12), 2) ∧ 90 + 2 = 92 := ⟨by decide +kernel, rfl⟩
theorem dX7_peopleBy_92 : decode cX7_peopleBy 92 = .ok (.ireturn, 1) := by decide +kernel
theorem dX7_peopleBy_93 : decode cX7_peopleBy 93 = .ok (.aload_n 0, 1) ∧ 93 + 1 = 94 := ⟨by decide +kernel, rfl⟩
theorem dX7_peopleBy_94 : decode cX7_peopleBy 94 = .ok (.aload 5, 2) ∧ 94 + 2 = 96 := ⟨by decide +kernel, rfl⟩
theorem dX7_peopleBy_96 : decode cX7_peopleBy 96 = .ok (.iload 8, 2) ∧ 96 + 2 = 98 := ⟨by decide +kernel, rfl⟩
theorem dX7_peopleBy_98 : decode cX7_peopleBy 98 = .ok (.invokevirtual 303, 3) := by decide +kernel
theorem dX7_peopleBy_101 : decode cX7_peopleBy 101 = .ok (.aload 5, 2) ∧ 101 + 2 = 103 := ⟨by decide +kernel, rfl⟩
theorem dX7_peopleBy_103 : decode cX7_peopleBy 103 = .ok (.iload 8, 2) ∧ 103 + 2 = 105 := ⟨by decide +kernel, rfl⟩
theorem dX7_peopleBy_105 : decode cX7_peopleBy 105 = .ok (.iconst 1, 1) ∧ 105 + 1 = 106 := ⟨by decide +kernel, rfl⟩
theorem dX7_peopleBy_106 : decode cX7_peopleBy 106 = .ok (.iadd, 1) ∧ 106 + 1 = 107 := ⟨by decide +kernel, rfl⟩
theorem dX7_peopleBy_107 : decode cX7_peopleBy 107 = .ok (.invokevirtual 303, 3) := by decide +kernel
theorem dX7_peopleBy_110 : decode cX7_peopleBy 110 = .ok (.invokevirtual 305, 3) := by decide +kernel
theorem dX7_peopleBy_113 : decode cX7_peopleBy 113 = .ok (.ifCond .lt 6, 3) ∧ 113 + 3 = 116 ∧ ((113 : Nat) : Int) + (6) = ((119 : Nat) : Int) := ⟨by decide +kernel, rfl, by decide⟩
theorem dX7_peopleBy_116 : decode cX7_peopleBy 116 = .ok (.iinc 6 1, 3) ∧ 116 + 3 = 119 := ⟨by decide +kernel, rfl⟩
theorem dX7_peopleBy_119 : decode cX7_peopleBy 119 = .ok (.iinc 7 1, 3) ∧ 119 + 3 = 122 := ⟨by decide +kernel, rfl⟩
theorem dX7_peopleBy_122 : decode cX7_peopleBy 122 = .ok (.goto (-58), 3) ∧ ((122 : Nat) : Int) + (-58) = ((64 : Nat) : Int) := ⟨by decide +kernel, by decide⟩
theorem dX7_peopleBy_125 : decode cX7_peopleBy 125 = .ok (.iload 6, 2) ∧ 125 + 2 = 127 := ⟨by decide +kernel, rfl⟩
theorem dX7_peopleBy_127 : decode cX7_peopleBy 127 = .ok (.ireturn, 1) := by decide +kernel
def B_X7_peopleBy_32 (fu : Nat) (o : Nat) (S : Hp) : Option (Int32 × Hp) :=
  some ((-2 : Int32), S)
set_option maxRecDepth 100000 in
set_option maxHeartbeats 4000000 in
theorem w_X7_peopleBy_32 {E : Cx} {l : Launch} {res : Int32 × Hp} {ad : Nat → Nat} {fu : Nat} {o : Nat} {S : Hp} (K : Kx E cX7_peopleBy RX7 (rmd 3 0 0)) (X : Bx E l yX7_peopleBy 9 (some .int) 0 0 ad (QI res)) (h : B_X7_peopleBy_32 fu o S = some res) : J E 0 0 32 [] [] S ad := by
  refine j_bipush (v := (-2 : Int32)) K dX7_peopleBy_32 (by decide) ?_
  exact j_iret K X dX7_peopleBy_34 h
def B_X7_peopleBy_119 (k64 : Hp → Int32 → Int32 → Option (Int32 × Hp)) (fu : Nat) (o : Nat) (S : Hp) (x3 : Int32) (x4 : Int32) (x5 : Option Nat) (x6 : Int32) (x7 : Int32) : Option (Int32 × Hp) :=
  k64 S x6 (x7 + (1 : Int32))
set_option maxRecDepth 100000 in
set_option maxHeartbeats 4000000 in
theorem w_X7_peopleBy_119 {E : Cx} {l : Launch} {res : Int32 × Hp} {ad : Nat → Nat} {k64 : Hp → Int32 → Int32 → Option (Int32 × Hp)} {fu : Nat} {o : Nat} {S : Hp} {x3 : Int32} {x4 : Int32} {x5 : Option Nat} {x6 : Int32} {x7 : Int32} (K : Kx E cX7_peopleBy RX7 (rmd 3 0 0)) (X : Bx E l yX7_peopleBy 9 (some .int) 0 0 ad (QI res)) (hk64 : ∀ (S : Hp) (x6 : Int32) (x7 : Int32), k64 S x6 x7 = some res → J E 0 0 64 [(0, vR (some o)), (3, vI x3), (4, vI x4), (5, vR x5), (6, vI x6), (7, vI x7)] [] S ad) (h : B_X7_peopleBy_119 k64 fu o S x3 x4 x5 x6 x7 = some res) : J E 0 0 119 [(0, vR (some o)), (3, vI x3), (4, vI x4), (5, vR x5), (6, vI x6), (7, vI x7)] [] S ad := by
  refine j_iinc (q := 5) (v := (x7 + (1 : Int32))) (lv' := [(7, vI (x7 + (1 : Int32))), (0, vR (some o)), (3, vI x3), (4, vI x4), (5, vR x5), (6, vI x6)]) K dX7_peopleBy_119 rfl rfl X.2.2.1 (by decide) rfl ?_
  refine j_goto K dX7_peopleBy_122 ?_
  exact j_sub [1, 2, 3, 4, 5, 0] rfl (hk64 _ _ _ h)
def L_X7_peopleBy_64 (k64 : Hp → Int32 → Int32 → Option (Int32 × Hp)) (fu : Nat) (o : Nat) (x3 : Int32) (x4 : Int32) (x5 : Option Nat) (S : Hp) (x6 : Int32) (x7 : Int32) : Option (Int32 × Hp) :=
  if x4 ≤ x7 then
    some (x6, S)
  else
    (ob S 3 x5).bind fun o84 =>
    b2 (F_X4_holds S o84 (x3 + ((2 : Int32) * x7)) (2 : Int32)) fun v84 S84 =>
    if v84 = 0 then
      some ((-12 : Int32), S84)
    else
      (ob S84 3 (some o84)).bind fun _ =>
      b2 (F_X4_read S84 o84 (x3 + ((2 : Int32) * x7))) fun v98 S98 =>
      (ob S98 3 (some o84)).bind fun _ =>
      b2 (F_X4_read S98 o84 ((x3 + ((2 : Int32) * x7)) + (1 : Int32))) fun v107 S107 =>
      (ob S107 5 (some o)).bind fun _ =>
      b2 (F_X7_person S107 o v98 v107) fun v110 S110 =>
      if v110 < 0 then
        B_X7_peopleBy_119 k64 fu o S110 x3 x4 (some o84) x6 x7
      else
        B_X7_peopleBy_119 k64 fu o S110 x3 x4 (some o84) (x6 + (1 : Int32)) x7
set_option maxRecDepth 100000 in
set_option maxHeartbeats 4000000 in
theorem wl_X7_peopleBy_64 {E : Cx} {l : Launch} {res : Int32 × Hp} {ad : Nat → Nat} {k64 : Hp → Int32 → Int32 → Option (Int32 × Hp)} {fu : Nat} {o : Nat} {S : Hp} {x3 : Int32} {x4 : Int32} {x5 : Option Nat} {x6 : Int32} {x7 : Int32} (K : Kx E cX7_peopleBy RX7 (rmd 3 0 0)) (X : Bx E l yX7_peopleBy 9 (some .int) 0 0 ad (QI res)) (hk64 : ∀ (S : Hp) (x6 : Int32) (x7 : Int32), k64 S x6 x7 = some res → J E 0 0 64 [(0, vR (some o)), (3, vI x3), (4, vI x4), (5, vR x5), (6, vI x6), (7, vI x7)] [] S ad) (h : L_X7_peopleBy_64 k64 fu o x3 x4 x5 S x6 x7 = some res) : J E 0 0 64 [(0, vR (some o)), (3, vI x3), (4, vI x4), (5, vR x5), (6, vI x6), (7, vI x7)] [] S ad := by
  refine j_iload K dX7_peopleBy_64 5 rfl ?_
  refine j_iload K dX7_peopleBy_66 2 rfl ?_
  refine j_icmp_ge K dX7_peopleBy_68 (fun c68 => ?_) (fun c68 => ?_)
  · replace h := it c68 h
    refine j_iload K dX7_peopleBy_125 4 rfl ?_
    exact j_iret K X dX7_peopleBy_127 h
  · replace h := ie c68 h
    refine j_iload_n K dX7_peopleBy_71 rfl 1 rfl ?_
    refine j_iconst (v := (2 : Int32)) K dX7_peopleBy_72 (by decide) ?_
    refine j_iload K dX7_peopleBy_73 5 rfl ?_
    refine j_imul K dX7_peopleBy_75 ?_
    refine j_iadd K dX7_peopleBy_76 ?_
    refine j_istore (lv' := [(8, vI (x3 + ((2 : Int32) * x7))), (0, vR (some o)), (3, vI x3), (4, vI x4), (5, vR x5), (6, vI x6), (7, vI x7)]) K dX7_peopleBy_77 X.2.2.1 (by decide) rfl ?_
    refine j_aload K dX7_peopleBy_79 4 rfl ?_
    refine j_iload K dX7_peopleBy_81 0 rfl ?_
    refine j_iconst (v := (2 : Int32)) K dX7_peopleBy_83 (by decide) ?_
    obtain ⟨o84, ew84, hz84⟩ := bd h
    obtain ⟨er84, ho84⟩ := ob_some ew84
    subst er84
    have h := hz84
    obtain ⟨v84, S84, e84, h⟩ := bd2 h
    refine j_cI (st := []) K (r_V (vs := [vI (x3 + ((2 : Int32) * x7)), vI (2 : Int32)]) (n := 2) (o := o84) K (c_X4_holds e84) ho84 (by decide) rfl dX7_peopleBy_84 z774 z695 z696 z5 z697 ⟨zd_X4_holds, rfl, rfl, rfl, ⟨Nat.le_of_ble_eq_true rfl, Nat.le_of_ble_eq_true rfl⟩, Nat.le_of_ble_eq_true rfl, Nat.le_of_ble_eq_true rfl, Nat.le_of_ble_eq_true rfl⟩) rfl ?_
    refine j_if_ne K dX7_peopleBy_87 (fun c87 => ?_) (fun c87 => ?_)
    · replace h := ie c87 h
      refine j_aload_n K dX7_peopleBy_93 rfl 1 rfl ?_
      refine j_aload K dX7_peopleBy_94 4 rfl ?_
      refine j_iload K dX7_peopleBy_96 0 rfl ?_
      obtain ⟨w98, ew98, h⟩ := bd h
      have ho98 := obS ew98
      obtain ⟨v98, S98, e98, h⟩ := bd2 h
      refine j_cI (st := [vR (some o)]) K (r_V (vs := [vI (x3 + ((2 : Int32) * x7))]) (n := 1) (o := o84) K (c_X4_read e98) ho98 (by decide) rfl dX7_peopleBy_98 z786 z699 z700 z5 z701 ⟨zd_X4_read, rfl, rfl, rfl, ⟨Nat.le_of_ble_eq_true rfl, Nat.le_of_ble_eq_true rfl⟩, Nat.le_of_ble_eq_true rfl, Nat.le_of_ble_eq_true rfl, Nat.le_of_ble_eq_true rfl⟩) rfl ?_
      refine j_aload K dX7_peopleBy_101 4 rfl ?_
      refine j_iload K dX7_peopleBy_103 0 rfl ?_
      refine j_iconst (v := (1 : Int32)) K dX7_peopleBy_105 (by decide) ?_
      refine j_iadd K dX7_peopleBy_106 ?_
      obtain ⟨w107, ew107, h⟩ := bd h
      have ho107 := obS ew107
      obtain ⟨v107, S107, e107, h⟩ := bd2 h
      refine j_cI (st := [vI v98, vR (some o)]) K (r_V (vs := [vI ((x3 + ((2 : Int32) * x7)) + (1 : Int32))]) (n := 1) (o := o84) K (c_X4_read e107) ho107 (by decide) rfl dX7_peopleBy_107 z786 z699 z700 z5 z701 ⟨zd_X4_read, rfl, rfl, rfl, ⟨Nat.le_of_ble_eq_true rfl, Nat.le_of_ble_eq_true rfl⟩, Nat.le_of_ble_eq_true rfl, Nat.le_of_ble_eq_true rfl, Nat.le_of_ble_eq_true rfl⟩) rfl ?_
      obtain ⟨w110, ew110, h⟩ := bd h
      have ho110 := obS ew110
      obtain ⟨v110, S110, e110, h⟩ := bd2 h
      refine j_cI (st := []) K (r_V (vs := [vI v98, vI v107]) (n := 2) (o := o) K (c_X7_person e110) ho110 (by decide) rfl dX7_peopleBy_110 z787 z486 z487 z1 z488 ⟨zd_X7_person, rfl, rfl, rfl, ⟨Nat.le_of_ble_eq_true rfl, Nat.le_of_ble_eq_true rfl⟩, Nat.le_of_ble_eq_true rfl, Nat.le_of_ble_eq_true rfl, Nat.le_of_ble_eq_true rfl⟩) rfl ?_
      refine j_if_lt K dX7_peopleBy_113 (fun c113 => ?_) (fun c113 => ?_)
      · replace h := it c113 h
        exact j_sub [1, 2, 3, 4, 5, 6] rfl (w_X7_peopleBy_119 K X hk64 h)
      · replace h := ie c113 h
        refine j_iinc (q := 5) (v := (x6 + (1 : Int32))) (lv' := [(6, vI (x6 + (1 : Int32))), (8, vI (x3 + ((2 : Int32) * x7))), (0, vR (some o)), (3, vI x3), (4, vI x4), (5, vR (some o84)), (7, vI x7)]) K dX7_peopleBy_116 rfl rfl X.2.2.1 (by decide) rfl ?_
        exact j_sub [2, 3, 4, 5, 0, 6] rfl (w_X7_peopleBy_119 K X hk64 h)
    · replace h := it c87 h
      refine j_bipush (v := (-12 : Int32)) K dX7_peopleBy_90 (by decide) ?_
      exact j_iret K X dX7_peopleBy_92 h
def B_X7_peopleBy_64 (fu : Nat) (o : Nat) (x3 : Int32) (x4 : Int32) (x5 : Option Nat) : Nat → Hp → Int32 → Int32 → Option (Int32 × Hp)
  | 0 => fun _ _ _ => none
  | n + 1 => L_X7_peopleBy_64 (B_X7_peopleBy_64 fu o x3 x4 x5 n) fu o x3 x4 x5
theorem w_X7_peopleBy_64 {E : Cx} {l : Launch} {res : Int32 × Hp} {ad : Nat → Nat} {fu : Nat} {o : Nat} {x3 : Int32} {x4 : Int32} {x5 : Option Nat} (K : Kx E cX7_peopleBy RX7 (rmd 3 0 0)) (X : Bx E l yX7_peopleBy 9 (some .int) 0 0 ad (QI res)) : ∀ (n : Nat) (S : Hp) (x6 : Int32) (x7 : Int32), B_X7_peopleBy_64 fu o x3 x4 x5 n S x6 x7 = some res → J E 0 0 64 [(0, vR (some o)), (3, vI x3), (4, vI x4), (5, vR x5), (6, vI x6), (7, vI x7)] [] S ad := by
  intro n
  induction n with
  | zero =>
    intro S x6 x7 h
    cases h
  | succ n ih =>
    intro S x6 x7 h
    exact wl_X7_peopleBy_64 K X ih h
def F_X7_peopleBy (fu : Nat) (S : Hp) (o : Nat) (x1 : Int32) (x2 : Int32) (x3 : Int32) (x4 : Int32) : Option (Int32 × Hp) :=
  (ob S 5 (some o)).bind fun _ =>
  b2 (F_X7_sheetAt S o x1) fun v2 S2 =>
  if v2 = none then
    B_X7_peopleBy_32 fu o S2
  else
    b2 (F_X7_fits S2 x2 (3 : Int32)) fun v14 S14 =>
    if v14 = 0 then
      B_X7_peopleBy_32 fu o S14
    else
      if x4 < 0 then
        B_X7_peopleBy_32 fu o S14
      else
        if x4 ≤ (6 : Int32) then
          (ob S14 3 v2).bind fun o37 =>
          b2 (F_X4_isMissing S14 o37) fun v37 S37 =>
          if v37 = 0 then
            (gI S37 (some o37) 3 0).bind fun v48 =>
            if v48 = x2 then
              B_X7_peopleBy_64 fu o x3 x4 (some o37) fu S37 (0 : Int32) (0 : Int32)
            else
              some ((-13 : Int32), S37)
          else
            some ((-11 : Int32), S37)
        else
          B_X7_peopleBy_32 fu o S14
set_option maxRecDepth 100000 in
set_option maxHeartbeats 4000000 in
theorem w_X7_peopleBy {E : Cx} {l : Launch} {res : Int32 × Hp} {ad : Nat → Nat} {fu : Nat} {S : Hp} {o : Nat} {x1 : Int32} {x2 : Int32} {x3 : Int32} {x4 : Int32} (K : Kx E cX7_peopleBy RX7 (rmd 3 0 0)) (X : Bx E l yX7_peopleBy 9 (some .int) 0 0 ad (QI res)) (h : F_X7_peopleBy fu S o x1 x2 x3 x4 = some res) : J E 0 0 0 [(0, vR (some o)), (1, vI x1), (2, vI x2), (3, vI x3), (4, vI x4)] [] S ad := by
  refine j_aload_n K dX7_peopleBy_0 rfl 0 rfl ?_
  refine j_iload_n K dX7_peopleBy_1 rfl 1 rfl ?_
  obtain ⟨w2, ew2, h⟩ := bd h
  have ho2 := obS ew2
  obtain ⟨v2, S2, e2, h⟩ := bd2 h
  refine j_cR (st := []) K (r_V (vs := [vI x1]) (n := 1) (o := o) K (c_X7_sheetAt e2) ho2 (by decide) rfl dX7_peopleBy_2 z674 z676 zs21 z1 z677 ⟨zd_X7_sheetAt, rfl, rfl, rfl, ⟨Nat.le_of_ble_eq_true rfl, Nat.le_of_ble_eq_true rfl⟩, Nat.le_of_ble_eq_true rfl, Nat.le_of_ble_eq_true rfl, Nat.le_of_ble_eq_true rfl⟩) rfl ?_
  refine j_astore (lv' := [(5, vR v2), (0, vR (some o)), (1, vI x1), (2, vI x2), (3, vI x3), (4, vI x4)]) K dX7_peopleBy_5 X.2.2.1 (by decide) rfl ?_
  refine j_aload K dX7_peopleBy_7 0 rfl ?_
  refine j_ifnull K dX7_peopleBy_9 (fun c9 => ?_) (fun c9 => ?_)
  · replace h := it c9 h
    exact j_sub [] rfl (w_X7_peopleBy_32 K X h)
  · replace h := ie c9 h
    refine j_iload_n K dX7_peopleBy_12 rfl 3 rfl ?_
    refine j_iconst (v := (3 : Int32)) K dX7_peopleBy_13 (by decide) ?_
    obtain ⟨v14, S14, e14, h⟩ := bd2 h
    refine j_cI (st := []) K (r_S (vs := [vI x2, vI (3 : Int32)]) (n := 2) K (c_X7_fits e14) dX7_peopleBy_14 z444 z425 z1 z426 ⟨zd_X7_fits, rfl, rfl, rfl, ⟨Nat.le_of_ble_eq_true rfl, Nat.le_of_ble_eq_true rfl⟩, Nat.le_of_ble_eq_true rfl, Nat.le_of_ble_eq_true rfl, Nat.le_of_ble_eq_true rfl⟩) rfl ?_
    refine j_if_eq K dX7_peopleBy_17 (fun c17 => ?_) (fun c17 => ?_)
    · replace h := it c17 h
      exact j_sub [] rfl (w_X7_peopleBy_32 K X h)
    · replace h := ie c17 h
      refine j_iload K dX7_peopleBy_20 5 rfl ?_
      refine j_if_lt K dX7_peopleBy_22 (fun c22 => ?_) (fun c22 => ?_)
      · replace h := it c22 h
        exact j_sub [] rfl (w_X7_peopleBy_32 K X h)
      · replace h := ie c22 h
        refine j_iload K dX7_peopleBy_25 5 rfl ?_
        refine j_bipush (v := (6 : Int32)) K dX7_peopleBy_27 (by decide) ?_
        refine j_icmp_le K dX7_peopleBy_29 (fun c29 => ?_) (fun c29 => ?_)
        · replace h := it c29 h
          refine j_aload K dX7_peopleBy_35 0 rfl ?_
          obtain ⟨o37, ew37, hz37⟩ := bd h
          obtain ⟨er37, ho37⟩ := ob_some ew37
          subst er37
          have h := hz37
          obtain ⟨v37, S37, e37, h⟩ := bd2 h
          refine j_cI (st := []) K (r_V (vs := []) (n := 0) (o := o37) K (c_X4_isMissing e37) ho37 (by decide) rfl dX7_peopleBy_37 z682 z683 z684 z5 z685 ⟨zd_X4_isMissing, rfl, rfl, rfl, ⟨Nat.le_of_ble_eq_true rfl, Nat.le_of_ble_eq_true rfl⟩, Nat.le_of_ble_eq_true rfl, Nat.le_of_ble_eq_true rfl, Nat.le_of_ble_eq_true rfl⟩) rfl ?_
          refine j_if_eq K dX7_peopleBy_40 (fun c40 => ?_) (fun c40 => ?_)
          · replace h := it c40 h
            refine j_aload K dX7_peopleBy_46 0 rfl ?_
            obtain ⟨v48, e48, h⟩ := bd h
            refine fgX7_291 K dX7_peopleBy_48 e48 ?_
            refine j_iload_n K dX7_peopleBy_51 rfl 3 rfl ?_
            refine j_icmp_eq K dX7_peopleBy_52 (fun c52 => ?_) (fun c52 => ?_)
            · replace h := it c52 h
              refine j_iconst (v := (0 : Int32)) K dX7_peopleBy_58 (by decide) ?_
              refine j_istore (lv' := [(6, vI (0 : Int32)), (5, vR (some o37)), (0, vR (some o)), (1, vI x1), (2, vI x2), (3, vI x3), (4, vI x4)]) K dX7_peopleBy_59 X.2.2.1 (by decide) rfl ?_
              refine j_iconst (v := (0 : Int32)) K dX7_peopleBy_61 (by decide) ?_
              refine j_istore (lv' := [(7, vI (0 : Int32)), (6, vI (0 : Int32)), (5, vR (some o37)), (0, vR (some o)), (1, vI x1), (2, vI x2), (3, vI x3), (4, vI x4)]) K dX7_peopleBy_62 X.2.2.1 (by decide) rfl ?_
              exact j_sub [3, 6, 7, 2, 1, 0] rfl (w_X7_peopleBy_64 K X _ _ _ _ h)
            · replace h := ie c52 h
              refine j_bipush (v := (-13 : Int32)) K dX7_peopleBy_55 (by decide) ?_
              exact j_iret K X dX7_peopleBy_57 h
          · replace h := ie c40 h
            refine j_bipush (v := (-11 : Int32)) K dX7_peopleBy_43 (by decide) ?_
            exact j_iret K X dX7_peopleBy_45 h
        · replace h := ie c29 h
          exact j_sub [] rfl (w_X7_peopleBy_32 K X h)
theorem c_X7_peopleBy {l : Launch} {fu : Nat} {S : Hp} {o : Nat} {x1 : Int32} {x2 : Int32} {x3 : Int32} {x4 : Int32} {res : Int32 × Hp} (h : F_X7_peopleBy fu S o x1 x2 x3 x4 = some res) : Ct l yX7_peopleBy cX7_peopleBy 9 (some .int) (rmd 3 0 0) 0 0 [vR (some o), vI x1, vI x2, vI x3, vI x4] S (QI res) :=
  z_entry (by decide +kernel) (Nat.le_of_ble_eq_true rfl) (fun E ad K X => w_X7_peopleBy K X h)

theorem dX7_taken_0 : decode cX7_taken 0 = .ok (.iload_n 2, 1) ∧ 0 + 1 = 1 := ⟨by decide +kernel, rfl⟩
theorem dX7_taken_1 : decode cX7_taken 1 = .ok (.bipush 7, 2) ∧ 1 + 2 = 3 := ⟨by decide +kernel, rfl⟩
theorem dX7_taken_3 : decode cX7_taken 3 = .ok (.invokestatic 135, 3) := by decide +kernel
theorem dX7_taken_6 : decode cX7_taken 6 = .ok (.ifCond .ne 6, 3) ∧ 6 + 3 = 9 ∧ ((6 : Nat) : Int) + (6) = ((12 : Nat) : Int) := ⟨by decide +kernel, rfl, by decide⟩
theorem dX7_taken_9 : decode cX7_taken 9 = .ok (.bipush (-2), 2) ∧ 9 + 2 = 11 := ⟨by decide +kernel, rfl⟩
theorem dX7_taken_11 : decode cX7_taken 11 = .ok (.ireturn, 1) := by decide +kernel
theorem dX7_taken_12 : decode cX7_taken 12 = .ok (.iload_n 1, 1) ∧ 12 + 1 = 13 := ⟨by decide +kernel, rfl⟩
theorem dX7_taken_13 : decode cX7_taken 13 = .ok (.bipush 16, 2) ∧ 13 + 2 = 15 := ⟨by decide +kernel, rfl⟩
theorem dX7_taken_15 : decode cX7_taken 15 = .ok (.invokestatic 135, 3) := by decide +kernel
theorem dX7_taken_18 : decode cX7_taken 18 = .ok (.ifCond .ne 6, 3) ∧ 18 + 3 = 21 ∧ ((18 : Nat) : Int) + (6) = ((24 : Nat) : Int) := ⟨by decide +kernel, rfl, by decide⟩
theorem dX7_taken_21 : decode cX7_taken 21 = .ok (.bipush (-12), 2) ∧ 21 + 2 = 23 := ⟨by decide +kernel, rfl⟩
theorem dX7_taken_23 : decode cX7_taken 23 = .ok (.ireturn, 1) := by decide +kernel
theorem dX7_taken_24 : decode cX7_taken 24 = .ok (.iload_n 1, 1) ∧ 24 + 1 = 25 := ⟨by decide +kernel, rfl⟩
theorem dX7_taken_25 : decode cX7_taken 25 = .ok (.bipush 6, 2) ∧ 25 + 2 = 27 := ⟨by decide +kernel, rfl⟩
theorem dX7_taken_27 : decode cX7_taken 27 = .ok (.isub, 1) ∧ 27 + 1 = 28 := ⟨by decide +kernel, rfl⟩
theorem dX7_taken_28 : decode cX7_taken 28 = .ok (.istore_n 3, 1) ∧ 28 + 1 = 29 := ⟨by decide +kernel, rfl⟩
theorem dX7_taken_29 : decode cX7_taken 29 = .ok (.aload_n 0, 1) ∧ 29 + 1 = 30 := ⟨by decide +kernel, rfl⟩
theorem dX7_taken_30 : decode cX7_taken 30 = .ok (.getfield 10, 3) ∧ 30 + 3 = 33 := ⟨by decide +kernel, rfl⟩
theorem dX7_taken_33 : decode cX7_taken 33 = .ok (.iload_n 1, 1) ∧ 33 + 1 = 34 := ⟨by decide +kernel, rfl⟩
theorem dX7_taken_34 : decode cX7_taken 34 = .ok (.invokevirtual 143, 3) := by decide +kernel
theorem dX7_taken_37 : decode cX7_taken 37 = .ok (.ifCond .ne 17, 3) ∧ 37 + 3 = 40 ∧ ((37 : Nat) : Int) + (17) = ((54 : Nat) : Int) := ⟨by decide +kernel, rfl, by decide⟩
theorem dX7_taken_40 : decode cX7_taken 40 = .ok (.aload_n 0, 1) ∧ 40 + 1 = 41 := ⟨by decide +kernel, rfl⟩
theorem dX7_taken_41 : decode cX7_taken 41 = .ok (.getfield 10, 3) ∧ 41 + 3 = 44 := ⟨by decide +kernel, rfl⟩
theorem dX7_taken_44 : decode cX7_taken 44 = .ok (.iload_n 3, 1) ∧ 44 + 1 = 45 := ⟨by decide +kernel, rfl⟩
theorem dX7_taken_45 : decode cX7_taken 45 = .ok (.invokevirtual 109, 3) := by decide +kernel
theorem dX7_taken_48 : decode cX7_taken 48 = .ok (.ifCond .ne 6, 3) ∧ 48 + 3 = 51 ∧ ((48 : Nat) : Int) + (6) = ((54 : Nat) : Int) := ⟨by decide +kernel, rfl, by decide⟩
theorem dX7_taken_51 : decode cX7_taken 51 = .ok (.bipush (-11), 2) ∧ 51 + 2 = 53 := ⟨by decide +kernel, rfl⟩
theorem dX7_taken_53 : decode cX7_taken 53 = .ok (.ireturn, 1) := by decide +kernel
theorem dX7_taken_54 : decode cX7_taken 54 = .ok (.iload_n 2, 1) ∧ 54 + 1 = 55 := ⟨by decide +kernel, rfl⟩
theorem dX7_taken_55 : decode cX7_taken 55 = .ok (.bipush 6, 2) ∧ 55 + 2 = 57 := ⟨by decide +kernel, rfl⟩
theorem dX7_taken_57 : decode cX7_taken 57 = .ok (.if_icmp .ne 31, 3) ∧ 57 + 3 = 60 ∧ ((57 : Nat) : Int) + (31) = ((88 : Nat) : Int) := ⟨by decide +kernel, rfl, by decide⟩
theorem dX7_taken_60 : decode cX7_taken 60 = .ok (.aload_n 0, 1) ∧ 60 + 1 = 61 := ⟨by decide +kernel, rfl⟩
theorem dX7_taken_61 : decode cX7_taken 61 = .ok (.getfield 10, 3) ∧ 61 + 3 = 64 := ⟨by decide +kernel, rfl⟩
theorem dX7_taken_64 : decode cX7_taken 64 = .ok (.iload_n 3, 1) ∧ 64 + 1 = 65 := ⟨by decide +kernel, rfl⟩
theorem dX7_taken_65 : decode cX7_taken 65 = .ok (.invokevirtual 109, 3) := by decide +kernel
theorem dX7_taken_68 : decode cX7_taken 68 = .ok (.ifCond .eq 17, 3) ∧ 68 + 3 = 71 ∧ ((68 : Nat) : Int) + (17) = ((85 : Nat) : Int) := ⟨by decide +kernel, rfl, by decide⟩
theorem dX7_taken_71 : decode cX7_taken 71 = .ok (.aload_n 0, 1) ∧ 71 + 1 = 72 := ⟨by decide +kernel, rfl⟩
theorem dX7_taken_72 : decode cX7_taken 72 = .ok (.getfield 10, 3) ∧ 72 + 3 = 75 := ⟨by decide +kernel, rfl⟩
theorem dX7_taken_75 : decode cX7_taken 75 = .ok (.getfield 120, 3) ∧ 75 + 3 = 78 := ⟨by decide +kernel, rfl⟩
theorem dX7_taken_78 : decode cX7_taken 78 = .ok (.iload_n 3, 1) ∧ 78 + 1 = 79 := ⟨by decide +kernel, rfl⟩
theorem dX7_taken_79 : decode cX7_taken 79 = .ok (.invokestatic 116, 3) := by decide +kernel
theorem dX7_taken_82 : decode cX7_taken 82 = .ok (.goto 5, 3) ∧ ((82 : Nat) : Int) + (5) = ((87 : Nat) : Int) := ⟨by decide +kernel, by decide⟩
theorem dX7_taken_85 : decode cX7_taken 85 = .ok (.bipush (-13), 2) ∧ 85 + 2 = 87 := ⟨by decide +kernel, rfl⟩
theorem dX7_taken_87 : decode cX7_taken 87 = .ok (.ireturn, 1) := by decide +kernel
theorem dX7_taken_88 : decode cX7_taken 88 = .ok (.aload_n 0, 1) ∧ 88 + 1 = 89 := ⟨by decide +kernel, rfl⟩
theorem dX7_taken_89 : decode cX7_taken 89 = .ok (.getfield 10, 3) ∧ 89 + 3 = 92 := ⟨by decide +kernel, rfl⟩
theorem dX7_taken_92 : decode cX7_taken 92 = .ok (.iload_n 1, 1) ∧ 92 + 1 = 93 := ⟨by decide +kernel, rfl⟩
theorem dX7_taken_93 : decode cX7_taken 93 = .ok (.invokevirtual 143, 3) := by decide +kernel
theorem dX7_taken_96 : decode cX7_taken 96 = .ok (.ifCond .eq 25, 3) ∧ 96 + 3 = 99 ∧ ((96 : Nat) : Int) + (25) = ((121 : Nat) : Int) := ⟨by decide +kernel, rfl, by decide⟩
theorem dX7_taken_99 : decode cX7_taken 99 = .ok (.aload_n 0, 1) ∧ 99 + 1 = 100 := ⟨by decide +kernel, rfl⟩
theorem dX7_taken_100 : decode cX7_taken 100 = .ok (.getfield 10, 3) ∧ 100 + 3 = 103 := ⟨by decide +kernel, rfl⟩
theorem dX7_taken_103 : decode cX7_taken 103 = .ok (.getfield 168, 3) ∧ 103 + 3 = 106 := ⟨by decide +kernel, rfl⟩
theorem dX7_taken_106 : decode cX7_taken 106 = .ok (.iload_n 1, 1) ∧ 106 + 1 = 107 := ⟨by decide +kernel, rfl⟩
theorem dX7_taken_107 : decode cX7_taken 107 = .ok (.invokestatic 116, 3) := by decide +kernel
theorem dX7_taken_110 : decode cX7_taken 110 = .ok (.iload_n 2, 1) ∧ 110 + 1 = 111 := ⟨by decide +kernel, rfl⟩
theorem dX7_taken_111 : decode cX7_taken 111 = .ok (.invokestatic 308, 3) := by decide +kernel
theorem dX7_taken_114 : decode cX7_taken 114 = .ok (.ifCond .eq 7, 3) ∧ 114 + 3 = 117 ∧ ((114 : Nat) : Int) + (7) = ((121 : Nat) : Int) := ⟨by decide +kernel, rfl, by decide⟩
theorem dX7_taken_117 : decode cX7_taken 117 = .ok (.iload_n 1, 1) ∧ 117 + 1 = 118 := ⟨by decide +kernel, rfl⟩
theorem dX7_taken_118 : decode cX7_taken 118 = .ok (.goto 5, 3) ∧ ((118 : Nat) : Int) + (5) = ((123 : Nat) : Int) := ⟨by decide +kernel, by decide⟩
theorem dX7_taken_121 : decode cX7_taken 121 = .ok (.bipush (-13), 2) ∧ 121 + 2 = 123 := ⟨by decide +kernel, rfl⟩
theorem dX7_taken_123 : decode cX7_taken 123 = .ok (.ireturn, 1) := by decide +kernel
def B_X7_taken_87 (fu : Nat) (o : Nat) (S : Hp) (s0 : Int32) : Option (Int32 × Hp) :=
  some (s0, S)
set_option maxRecDepth 100000 in
set_option maxHeartbeats 4000000 in
theorem w_X7_taken_87 {E : Cx} {l : Launch} {res : Int32 × Hp} {ad : Nat → Nat} {fu : Nat} {o : Nat} {S : Hp} {s0 : Int32} (K : Kx E cX7_taken RX7 (rmd 2 0 0)) (X : Bx E l yX7_taken 4 (some .int) 0 0 ad (QI res)) (h : B_X7_taken_87 fu o S s0 = some res) : J E 0 0 87 [] [vI s0] S ad := by
  exact j_iret K X dX7_taken_87 h
def B_X7_taken_123 (fu : Nat) (o : Nat) (S : Hp) (s0 : Int32) : Option (Int32 × Hp) :=
  some (s0, S)
set_option maxRecDepth 100000 in
set_option maxHeartbeats 4000000 in
theorem w_X7_taken_123 {E : Cx} {l : Launch} {res : Int32 × Hp} {ad : Nat → Nat} {fu : Nat} {o : Nat} {S : Hp} {s0 : Int32} (K : Kx E cX7_taken RX7 (rmd 2 0 0)) (X : Bx E l yX7_taken 4 (some .int) 0 0 ad (QI res)) (h : B_X7_taken_123 fu o S s0 = some res) : J E 0 0 123 [] [vI s0] S ad := by
  exact j_iret K X dX7_taken_123 h
def B_X7_taken_121 (fu : Nat) (o : Nat) (S : Hp) : Option (Int32 × Hp) :=
  B_X7_taken_123 fu o S (-13 : Int32)
set_option maxRecDepth 100000 in
set_option maxHeartbeats 4000000 in
theorem w_X7_taken_121 {E : Cx} {l : Launch} {res : Int32 × Hp} {ad : Nat → Nat} {fu : Nat} {o : Nat} {S : Hp} (K : Kx E cX7_taken RX7 (rmd 2 0 0)) (X : Bx E l yX7_taken 4 (some .int) 0 0 ad (QI res)) (h : B_X7_taken_121 fu o S = some res) : J E 0 0 121 [] [] S ad := by
  refine j_bipush (v := (-13 : Int32)) K dX7_taken_121 (by decide) ?_
  exact w_X7_taken_123 K X h
def B_X7_taken_54 (fu : Nat) (o : Nat) (S : Hp) (x1 : Int32) (x2 : Int32) (x3 : Int32) : Option (Int32 × Hp) :=
  if x2 = (6 : Int32) then
    (gR S (some o) 5 0).bind fun v61 =>
    (ob S 0 v61).bind fun o65 =>
    b2 (F_X0_hasWrong S o65 x3) fun v65 S65 =>
    if v65 = 0 then
      B_X7_taken_87 fu o S65 (-13 : Int32)
    else
      (gR S65 (some o) 5 0).bind fun v72 =>
      (gR S65 v72 0 7).bind fun v75 =>
      b2 (F_X7_at S65 v75 x3) fun v79 S79 =>
      B_X7_taken_87 fu o S79 v79
  else
    (gR S (some o) 5 0).bind fun v89 =>
    (ob S 0 v89).bind fun o93 =>
    b2 (F_X0_hasPerson S o93 x1) fun v93 S93 =>
    if v93 = 0 then
      B_X7_taken_121 fu o S93
    else
      (gR S93 (some o) 5 0).bind fun v100 =>
      (gR S93 v100 0 1).bind fun v103 =>
      b2 (F_X7_at S93 v103 x1) fun v107 S107 =>
      b2 (F_X1_isOne fu S107 v107 x2) fun v111 S111 =>
      if v111 = 0 then
        B_X7_taken_121 fu o S111
      else
        B_X7_taken_123 fu o S111 x1
set_option maxRecDepth 100000 in
set_option maxHeartbeats 4000000 in
theorem w_X7_taken_54 {E : Cx} {l : Launch} {res : Int32 × Hp} {ad : Nat → Nat} {fu : Nat} {o : Nat} {S : Hp} {x1 : Int32} {x2 : Int32} {x3 : Int32} (K : Kx E cX7_taken RX7 (rmd 2 0 0)) (X : Bx E l yX7_taken 4 (some .int) 0 0 ad (QI res)) (h : B_X7_taken_54 fu o S x1 x2 x3 = some res) : J E 0 0 54 [(0, vR (some o)), (1, vI x1), (2, vI x2), (3, vI x3)] [] S ad := by
  refine j_iload_n K dX7_taken_54 rfl 2 rfl ?_
  refine j_bipush (v := (6 : Int32)) K dX7_taken_55 (by decide) ?_
  refine j_icmp_ne K dX7_taken_57 (fun c57 => ?_) (fun c57 => ?_)
  · replace h := ie c57 h
    refine j_aload_n K dX7_taken_88 rfl 0 rfl ?_
    obtain ⟨v89, e89, h⟩ := bd h
    refine fgX7_10 K dX7_taken_89 e89 ?_
    refine j_iload_n K dX7_taken_92 rfl 1 rfl ?_
    obtain ⟨o93, ew93, hz93⟩ := bd h
    obtain ⟨er93, ho93⟩ := ob_some ew93
    subst er93
    have h := hz93
    obtain ⟨v93, S93, e93, h⟩ := bd2 h
    refine j_cI (st := []) K (r_V (vs := [vI x1]) (n := 1) (o := o93) K (c_X0_hasPerson e93) ho93 (by decide) rfl dX7_taken_93 z461 z462 z463 z2 z464 ⟨zd_X0_hasPerson, rfl, rfl, rfl, ⟨Nat.le_of_ble_eq_true rfl, Nat.le_of_ble_eq_true rfl⟩, Nat.le_of_ble_eq_true rfl, Nat.le_of_ble_eq_true rfl, Nat.le_of_ble_eq_true rfl⟩) rfl ?_
    refine j_if_eq K dX7_taken_96 (fun c96 => ?_) (fun c96 => ?_)
    · replace h := it c96 h
      exact j_sub [] rfl (w_X7_taken_121 K X h)
    · replace h := ie c96 h
      refine j_aload_n K dX7_taken_99 rfl 0 rfl ?_
      obtain ⟨v100, e100, h⟩ := bd h
      refine fgX7_10 K dX7_taken_100 e100 ?_
      obtain ⟨v103, e103, h⟩ := bd h
      refine fgX7_168 K dX7_taken_103 e103 ?_
      refine j_iload_n K dX7_taken_106 rfl 1 rfl ?_
      obtain ⟨v107, S107, e107, h⟩ := bd2 h
      refine j_cI (st := []) K (r_S (vs := [vR v103, vI x1]) (n := 2) K (c_X7_at e107) dX7_taken_107 z427 z227 z1 z228 ⟨zd_X7_at, rfl, rfl, rfl, ⟨Nat.le_of_ble_eq_true rfl, Nat.le_of_ble_eq_true rfl⟩, Nat.le_of_ble_eq_true rfl, Nat.le_of_ble_eq_true rfl, Nat.le_of_ble_eq_true rfl⟩) rfl ?_
      refine j_iload_n K dX7_taken_110 rfl 2 rfl ?_
      obtain ⟨v111, S111, e111, h⟩ := bd2 h
      refine j_cI (st := []) K (r_S (vs := [vI v107, vI x2]) (n := 2) K (c_X1_isOne e111) dX7_taken_111 z792 z793 z15 z794 ⟨zd_X1_isOne, rfl, rfl, rfl, ⟨Nat.le_of_ble_eq_true rfl, Nat.le_of_ble_eq_true rfl⟩, Nat.le_of_ble_eq_true rfl, Nat.le_of_ble_eq_true rfl, Nat.le_of_ble_eq_true rfl⟩) rfl ?_
      refine j_if_eq K dX7_taken_114 (fun c114 => ?_) (fun c114 => ?_)
      · replace h := it c114 h
        exact j_sub [] rfl (w_X7_taken_121 K X h)
      · replace h := ie c114 h
        refine j_iload_n K dX7_taken_117 rfl 1 rfl ?_
        refine j_goto K dX7_taken_118 ?_
        exact j_sub [] rfl (w_X7_taken_123 K X h)
  · replace h := it c57 h
    refine j_aload_n K dX7_taken_60 rfl 0 rfl ?_
    obtain ⟨v61, e61, h⟩ := bd h
    refine fgX7_10 K dX7_taken_61 e61 ?_
    refine j_iload_n K dX7_taken_64 rfl 3 rfl ?_
    obtain ⟨o65, ew65, hz65⟩ := bd h
    obtain ⟨er65, ho65⟩ := ob_some ew65
    subst er65
    have h := hz65
    obtain ⟨v65, S65, e65, h⟩ := bd2 h
    refine j_cI (st := []) K (r_V (vs := [vI x3]) (n := 1) (o := o65) K (c_X0_hasWrong e65) ho65 (by decide) rfl dX7_taken_65 z420 z421 z422 z2 z423 ⟨zd_X0_hasWrong, rfl, rfl, rfl, ⟨Nat.le_of_ble_eq_true rfl, Nat.le_of_ble_eq_true rfl⟩, Nat.le_of_ble_eq_true rfl, Nat.le_of_ble_eq_true rfl, Nat.le_of_ble_eq_true rfl⟩) rfl ?_
    refine j_if_eq K dX7_taken_68 (fun c68 => ?_) (fun c68 => ?_)
    · replace h := it c68 h
      refine j_bipush (v := (-13 : Int32)) K dX7_taken_85 (by decide) ?_
      exact j_sub [] rfl (w_X7_taken_87 K X h)
    · replace h := ie c68 h
      refine j_aload_n K dX7_taken_71 rfl 0 rfl ?_
      obtain ⟨v72, e72, h⟩ := bd h
      refine fgX7_10 K dX7_taken_72 e72 ?_
      obtain ⟨v75, e75, h⟩ := bd h
      refine fgX7_120 K dX7_taken_75 e75 ?_
      refine j_iload_n K dX7_taken_78 rfl 3 rfl ?_
      obtain ⟨v79, S79, e79, h⟩ := bd2 h
      refine j_cI (st := []) K (r_S (vs := [vR v75, vI x3]) (n := 2) K (c_X7_at e79) dX7_taken_79 z427 z227 z1 z228 ⟨zd_X7_at, rfl, rfl, rfl, ⟨Nat.le_of_ble_eq_true rfl, Nat.le_of_ble_eq_true rfl⟩, Nat.le_of_ble_eq_true rfl, Nat.le_of_ble_eq_true rfl, Nat.le_of_ble_eq_true rfl⟩) rfl ?_
      refine j_goto K dX7_taken_82 ?_
      exact j_sub [] rfl (w_X7_taken_87 K X h)
def F_X7_taken (fu : Nat) (S : Hp) (o : Nat) (x1 : Int32) (x2 : Int32) : Option (Int32 × Hp) :=
  b2 (F_X7_fits S x2 (7 : Int32)) fun v3 S3 =>
  if v3 = 0 then
    some ((-2 : Int32), S3)
  else
    b2 (F_X7_fits S3 x1 (16 : Int32)) fun v15 S15 =>
    if v15 = 0 then
      some ((-12 : Int32), S15)
    else
      (gR S15 (some o) 5 0).bind fun v30 =>
      (ob S15 0 v30).bind fun o34 =>
      b2 (F_X0_hasPerson S15 o34 x1) fun v34 S34 =>
      if v34 = 0 then
        (gR S34 (some o) 5 0).bind fun v41 =>
        (ob S34 0 v41).bind fun o45 =>
        b2 (F_X0_hasWrong S34 o45 (x1 - (6 : Int32))) fun v45 S45 =>
        if v45 = 0 then
          some ((-11 : Int32), S45)
        else
          B_X7_taken_54 fu o S45 x1 x2 (x1 - (6 : Int32))
      else
        B_X7_taken_54 fu o S34 x1 x2 (x1 - (6 : Int32))
set_option maxRecDepth 100000 in
set_option maxHeartbeats 4000000 in
theorem w_X7_taken {E : Cx} {l : Launch} {res : Int32 × Hp} {ad : Nat → Nat} {fu : Nat} {S : Hp} {o : Nat} {x1 : Int32} {x2 : Int32} (K : Kx E cX7_taken RX7 (rmd 2 0 0)) (X : Bx E l yX7_taken 4 (some .int) 0 0 ad (QI res)) (h : F_X7_taken fu S o x1 x2 = some res) : J E 0 0 0 [(0, vR (some o)), (1, vI x1), (2, vI x2)] [] S ad := by
  refine j_iload_n K dX7_taken_0 rfl 2 rfl ?_
  refine j_bipush (v := (7 : Int32)) K dX7_taken_1 (by decide) ?_
  obtain ⟨v3, S3, e3, h⟩ := bd2 h
  refine j_cI (st := []) K (r_S (vs := [vI x2, vI (7 : Int32)]) (n := 2) K (c_X7_fits e3) dX7_taken_3 z444 z425 z1 z426 ⟨zd_X7_fits, rfl, rfl, rfl, ⟨Nat.le_of_ble_eq_true rfl, Nat.le_of_ble_eq_true rfl⟩, Nat.le_of_ble_eq_true rfl, Nat.le_of_ble_eq_true rfl, Nat.le_of_ble_eq_true rfl⟩) rfl ?_
  refine j_if_ne K dX7_taken_6 (fun c6 => ?_) (fun c6 => ?_)
  · replace h := ie c6 h
    refine j_iload_n K dX7_taken_12 rfl 1 rfl ?_
    refine j_bipush (v := (16 : Int32)) K dX7_taken_13 (by decide) ?_
    obtain ⟨v15, S15, e15, h⟩ := bd2 h
    refine j_cI (st := []) K (r_S (vs := [vI x1, vI (16 : Int32)]) (n := 2) K (c_X7_fits e15) dX7_taken_15 z444 z425 z1 z426 ⟨zd_X7_fits, rfl, rfl, rfl, ⟨Nat.le_of_ble_eq_true rfl, Nat.le_of_ble_eq_true rfl⟩, Nat.le_of_ble_eq_true rfl, Nat.le_of_ble_eq_true rfl, Nat.le_of_ble_eq_true rfl⟩) rfl ?_
    refine j_if_ne K dX7_taken_18 (fun c18 => ?_) (fun c18 => ?_)
    · replace h := ie c18 h
      refine j_iload_n K dX7_taken_24 rfl 1 rfl ?_
      refine j_bipush (v := (6 : Int32)) K dX7_taken_25 (by decide) ?_
      refine j_isub K dX7_taken_27 ?_
      refine j_istore_n (lv' := [(3, vI (x1 - (6 : Int32))), (0, vR (some o)), (1, vI x1), (2, vI x2)]) K dX7_taken_28 rfl X.2.2.1 (by decide) rfl ?_
      refine j_aload_n K dX7_taken_29 rfl 1 rfl ?_
      obtain ⟨v30, e30, h⟩ := bd h
      refine fgX7_10 K dX7_taken_30 e30 ?_
      refine j_iload_n K dX7_taken_33 rfl 2 rfl ?_
      obtain ⟨o34, ew34, hz34⟩ := bd h
      obtain ⟨er34, ho34⟩ := ob_some ew34
      subst er34
      have h := hz34
      obtain ⟨v34, S34, e34, h⟩ := bd2 h
      refine j_cI (st := []) K (r_V (vs := [vI x1]) (n := 1) (o := o34) K (c_X0_hasPerson e34) ho34 (by decide) rfl dX7_taken_34 z461 z462 z463 z2 z464 ⟨zd_X0_hasPerson, rfl, rfl, rfl, ⟨Nat.le_of_ble_eq_true rfl, Nat.le_of_ble_eq_true rfl⟩, Nat.le_of_ble_eq_true rfl, Nat.le_of_ble_eq_true rfl, Nat.le_of_ble_eq_true rfl⟩) rfl ?_
      refine j_if_ne K dX7_taken_37 (fun c37 => ?_) (fun c37 => ?_)
      · replace h := ie c37 h
        exact j_sub [1, 2, 3, 0] rfl (w_X7_taken_54 K X h)
      · replace h := it c37 h
        refine j_aload_n K dX7_taken_40 rfl 1 rfl ?_
        obtain ⟨v41, e41, h⟩ := bd h
        refine fgX7_10 K dX7_taken_41 e41 ?_
        refine j_iload_n K dX7_taken_44 rfl 0 rfl ?_
        obtain ⟨o45, ew45, hz45⟩ := bd h
        obtain ⟨er45, ho45⟩ := ob_some ew45
        subst er45
        have h := hz45
        obtain ⟨v45, S45, e45, h⟩ := bd2 h
        refine j_cI (st := []) K (r_V (vs := [vI (x1 - (6 : Int32))]) (n := 1) (o := o45) K (c_X0_hasWrong e45) ho45 (by decide) rfl dX7_taken_45 z420 z421 z422 z2 z423 ⟨zd_X0_hasWrong, rfl, rfl, rfl, ⟨Nat.le_of_ble_eq_true rfl, Nat.le_of_ble_eq_true rfl⟩, Nat.le_of_ble_eq_true rfl, Nat.le_of_ble_eq_true rfl, Nat.le_of_ble_eq_true rfl⟩) rfl ?_
        refine j_if_ne K dX7_taken_48 (fun c48 => ?_) (fun c48 => ?_)
        · replace h := ie c48 h
          exact j_sub [1, 2, 3, 0] rfl (w_X7_taken_54 K X h)
        · replace h := it c48 h
          refine j_bipush (v := (-11 : Int32)) K dX7_taken_51 (by decide) ?_
          exact j_iret K X dX7_taken_53 h
    · replace h := it c18 h
      refine j_bipush (v := (-12 : Int32)) K dX7_taken_21 (by decide) ?_
      exact j_iret K X dX7_taken_23 h
  · replace h := it c6 h
    refine j_bipush (v := (-2 : Int32)) K dX7_taken_9 (by decide) ?_
    exact j_iret K X dX7_taken_11 h
theorem c_X7_taken {l : Launch} {fu : Nat} {S : Hp} {o : Nat} {x1 : Int32} {x2 : Int32} {res : Int32 × Hp} (h : F_X7_taken fu S o x1 x2 = some res) : Ct l yX7_taken cX7_taken 4 (some .int) (rmd 2 0 0) 0 0 [vR (some o), vI x1, vI x2] S (QI res) :=
  z_entry (by decide +kernel) (Nat.le_of_ble_eq_true rfl) (fun E ad K X => w_X7_taken K X h)
