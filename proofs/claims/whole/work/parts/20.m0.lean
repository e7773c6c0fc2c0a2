theorem dX8_in_0 : decode cX8_in 0 = .ok (.iload_n 0, 1) ∧ 0 + 1 = 1 := ⟨by decide +kernel, rfl⟩
theorem dX8_in_1 : decode cX8_in 1 = .ok (.iload_n 1, 1) ∧ 1 + 1 = 2 := ⟨by decide +kernel, rfl⟩
theorem dX8_in_2 : decode cX8_in 2 = .ok (.if_icmp .lt 12, 3) ∧ 2 + 3 = 5 ∧ ((2 : Nat) : Int) + (12) = ((14 : Nat) : Int) := ⟨by decide +kernel, rfl, by decide⟩
theorem dX8_in_5 : decode cX8_in 5 = .ok (.iload_n 0, 1) ∧ 5 + 1 = 6 := ⟨by decide +kernel, rfl⟩
theorem dX8_in_6 : decode cX8_in 6 = .ok (.iload_n 2, 1) ∧ 6 + 1 = 7 := ⟨by decide +kernel, rfl⟩
theorem dX8_in_7 : decode cX8_in 7 = .ok (.if_icmp .gt 7, 3) ∧ 7 + 3 = 10 ∧ ((7 : Nat) : Int) + (7) = ((14 : Nat) : Int) := ⟨by decide +kernel, rfl, by decide⟩
theorem dX8_in_10 : decode cX8_in 10 = .ok (.iconst 1, 1) ∧ 10 + 1 = 11 := ⟨by decide +kernel, rfl⟩
theorem dX8_in_11 : decode cX8_in 11 = .ok (.goto 4, 3) ∧ ((11 : Nat) : Int) + (4) = ((15 : Nat) : Int) := ⟨by decide +kernel, by decide⟩
theorem dX8_in_14 : decode cX8_in 14 = .ok (.iconst 0, 1) ∧ 14 + 1 = 15 := ⟨by decide +kernel, rfl⟩
theorem dX8_in_15 : decode cX8_in 15 = .ok (.ireturn, 1) := by decide +kernel
def B_X8_in_15 (S : Hp) (s0 : Int32) : Option (Int32 × Hp) :=
  zb s0 S
set_option maxRecDepth 100000 in
set_option maxHeartbeats 4000000 in
theorem w_X8_in_15 {E : Cx} {l : Launch} {res : Int32 × Hp} {ad : Nat → Nat} {S : Hp} {s0 : Int32} (K : Kx E cX8_in RX8 (rmd 0 0 0)) (X : Bx E l yX8_in 3 (some .boolean) 0 0 ad (QI res)) (h : B_X8_in_15 S s0 = some res) : J E 0 0 15 [] [vI s0] S ad := by
  exact j_zret K X dX8_in_15 h
def B_X8_in_14 (S : Hp) : Option (Int32 × Hp) :=
  B_X8_in_15 S (0 : Int32)
set_option maxRecDepth 100000 in
set_option maxHeartbeats 4000000 in
theorem w_X8_in_14 {E : Cx} {l : Launch} {res : Int32 × Hp} {ad : Nat → Nat} {S : Hp} (K : Kx E cX8_in RX8 (rmd 0 0 0)) (X : Bx E l yX8_in 3 (some .boolean) 0 0 ad (QI res)) (h : B_X8_in_14 S = some res) : J E 0 0 14 [] [] S ad := by
  refine j_iconst (v := (0 : Int32)) K dX8_in_14 (by decide) ?_
  exact w_X8_in_15 K X h
def F_X8_in (S : Hp) (x0 : Int32) (x1 : Int32) (x2 : Int32) : Option (Int32 × Hp) :=
  if x0 < x1 then
    B_X8_in_14 S
  else
    if x2 < x0 then
      B_X8_in_14 S
    else
      B_X8_in_15 S (1 : Int32)
set_option maxRecDepth 100000 in
set_option maxHeartbeats 4000000 in
theorem w_X8_in {E : Cx} {l : Launch} {res : Int32 × Hp} {ad : Nat → Nat} {S : Hp} {x0 : Int32} {x1 : Int32} {x2 : Int32} (K : Kx E cX8_in RX8 (rmd 0 0 0)) (X : Bx E l yX8_in 3 (some .boolean) 0 0 ad (QI res)) (h : F_X8_in S x0 x1 x2 = some res) : J E 0 0 0 [(0, vI x0), (1, vI x1), (2, vI x2)] [] S ad := by
  refine j_iload_n K dX8_in_0 rfl 0 rfl ?_
  refine j_iload_n K dX8_in_1 rfl 1 rfl ?_
  refine j_icmp_lt K dX8_in_2 (fun c2 => ?_) (fun c2 => ?_)
  · replace h := it c2 h
    exact j_sub [] rfl (w_X8_in_14 K X h)
  · replace h := ie c2 h
    refine j_iload_n K dX8_in_5 rfl 0 rfl ?_
    refine j_iload_n K dX8_in_6 rfl 2 rfl ?_
    refine j_icmp_gt K dX8_in_7 (fun c7 => ?_) (fun c7 => ?_)
    · replace h := it c7 h
      exact j_sub [] rfl (w_X8_in_14 K X h)
    · replace h := ie c7 h
      refine j_iconst (v := (1 : Int32)) K dX8_in_10 (by decide) ?_
      refine j_goto K dX8_in_11 ?_
      exact j_sub [] rfl (w_X8_in_15 K X h)
theorem c_X8_in {l : Launch} {S : Hp} {x0 : Int32} {x1 : Int32} {x2 : Int32} {res : Int32 × Hp} (h : F_X8_in S x0 x1 x2 = some res) : Ct l yX8_in cX8_in 3 (some .boolean) (rmd 0 0 0) 0 0 [vI x0, vI x1, vI x2] S (QI res) :=
  z_entry (by decide +kernel) (Nat.le_of_ble_eq_true rfl) (fun E ad K X => w_X8_in K X h)

theorem dX8_wordFrom_0 : decode cX8_wordFrom 0 = .ok (.iconst 0, 1) ∧ 0 + 1 = 1 := ⟨by decide +kernel, rfl⟩
theorem dX8_wordFrom_1 : decode cX8_wordFrom 1 = .ok (.istore_n 3, 1) ∧ 1 + 1 = 2 := ⟨by decide +kernel, rfl⟩
theorem dX8_wordFrom_2 : decode cX8_wordFrom 2 = .ok (.iload_n 3, 1) ∧ 2 + 1 = 3 := ⟨by decide +kernel, rfl⟩
theorem dX8_wordFrom_3 : decode cX8_wordFrom 3 = .ok (.bipush 12, 2) ∧ 3 + 2 = 5 := ⟨by decide +kernel, rfl⟩
theorem dX8_wordFrom_5 : decode cX8_wordFrom 5 = .ok (.if_icmp .ge 96, 3) ∧ 5 + 3 = 8 ∧ ((5 : Nat) : Int) + (96) = ((101 : Nat) : Int) := ⟨by decide +kernel, rfl, by decide⟩
theorem dX8_wordFrom_8 : decode cX8_wordFrom 8 = .ok (.iload_n 2, 1) ∧ 8 + 1 = 9 := ⟨by decide +kernel, rfl⟩
theorem dX8_wordFrom_9 : decode cX8_wordFrom 9 = .ok (.iload_n 1, 1) ∧ 9 + 1 = 10 := ⟨by decide +kernel, rfl⟩
theorem dX8_wordFrom_10 : decode cX8_wordFrom 10 = .ok (.isub, 1) ∧ 10 + 1 = 11 := ⟨by decide +kernel, rfl⟩
theorem dX8_wordFrom_11 : decode cX8_wordFrom 11 = .ok (.bipush 8, 2) ∧ 11 + 2 = 13 := ⟨by decide +kernel, rfl⟩
theorem dX8_wordFrom_13 : decode cX8_wordFrom 13 = .ok (.if_icmp .gt 7, 3) ∧ 13 + 3 = 16 ∧ ((13 : Nat) : Int) + (7) = ((20 : Nat) : Int) := ⟨by decide +kernel, rfl, by decide⟩
theorem dX8_wordFrom_16 : decode cX8_wordFrom 16 = .ok (.iconst 1, 1) ∧ 16 + 1 = 17 := ⟨by decide +kernel, rfl⟩
theorem dX8_wordFrom_17 : decode cX8_wordFrom 17 = .ok (.goto 4, 3) ∧ ((17 : Nat) : Int) + (4) = ((21 : Nat) : Int) := ⟨by decide +kernel, by decide⟩
theorem dX8_wordFrom_20 : decode cX8_wordFrom 20 = .ok (.iconst 0, 1) ∧ 20 + 1 = 21 := ⟨by decide +kernel, rfl⟩
theorem dX8_wordFrom_21 : decode cX8_wordFrom 21 = .ok (.istore 4, 2) ∧ 21 + 2 = 23 := ⟨by decide +kernel, rfl⟩
theorem dX8_wordFrom_23 : decode cX8_wordFrom 23 = .ok (.iconst 0, 1) ∧ 23 + 1 = 24 := ⟨by decide +kernel, rfl⟩
theorem dX8_wordFrom_24 : decode cX8_wordFrom 24 = .ok (.istore 5, 2) ∧ 24 + 2 = 26 := ⟨by decide +kernel, rfl⟩
theorem dX8_wordFrom_26 : decode cX8_wordFrom 26 = .ok (.iload 5, 2) ∧ 26 + 2 = 28 := ⟨by decide +kernel, rfl⟩
theorem dX8_wordFrom_28 : decode cX8_wordFrom 28 = .ok (.bipush 8, 2) ∧ 28 + 2 = 30 := ⟨by decide +kernel, rfl⟩
theorem dX8_wordFrom_30 : decode cX8_wordFrom 30 = .ok (.if_icmp .ge 58, 3) ∧ 30 + 3 = 33 ∧ ((30 : Nat) : Int) + (58) = ((88 : Nat) : Int) := ⟨by decide +kernel, rfl, by decide⟩
theorem dX8_wordFrom_33 : decode cX8_wordFrom 33 = .ok (.iload 4, 2) ∧ 33 + 2 = 35 := ⟨by decide +kernel, rfl⟩
theorem dX8_wordFrom_35 : decode cX8_wordFrom 35 = .ok (.ifCond .eq 53, 3) ∧ 35 + 3 = 38 ∧ ((35 : Nat) : Int) + (53) = ((88 : Nat) : Int) := ⟨by decide +kernel, rfl, by decide⟩
theorem dX8_wordFrom_38 : decode cX8_wordFrom 38 = .ok (.aload_n 0, 1) ∧ 38 + 1 = 39 := ⟨by decide +kernel, rfl⟩
theorem dX8_wordFrom_39 : decode cX8_wordFrom 39 = .ok (.getfield 55, 3) ∧ 39 + 3 = 42 := ⟨by decide +kernel, rfl⟩
theorem dX8_wordFrom_42 : decode cX8_wordFrom 42 = .ok (.bipush 8, 2) ∧ 42 + 2 = 44 := ⟨by decide +kernel, rfl⟩
theorem dX8_wordFrom_44 : decode cX8_wordFrom 44 = .ok (.iload_n 3, 1) ∧ 44 + 1 = 45 := ⟨by decide +kernel, rfl⟩
theorem dX8_wordFrom_45 : decode cX8_wordFrom 45 = .ok (.imul, 1) ∧ 45 + 1 = 46 := ⟨by decide +kernel, rfl⟩
theorem dX8_wordFrom_46 : decode cX8_wordFrom 46 = .ok (.iload 5, 2) ∧ 46 + 2 = 48 := ⟨by decide +kernel, rfl⟩
theorem dX8_wordFrom_48 : decode cX8_wordFrom 48 = .ok (.iadd, 1) ∧ 48 + 1 = 49 := ⟨by decide +kernel, rfl⟩
theorem dX8_wordFrom_49 : decode cX8_wordFrom 49 = .ok (.iaload, 1) ∧ 49 + 1 = 50 := ⟨by decide +kernel, rfl⟩
theorem dX8_wordFrom_50 : decode cX8_wordFrom 50 = .ok (.iload_n 1, 1) ∧ 50 + 1 = 51 := ⟨by decide +kernel, rfl⟩
theorem dX8_wordFrom_51 : decode cX8_wordFrom 51 = .ok (.iload 5, 2) ∧ 51 + 2 = 53 := ⟨by decide +kernel, rfl⟩
theorem dX8_wordFrom_53 : decode cX8_wordFrom 53 = .ok (.iadd, 1) ∧ 53 + 1 = 54 := ⟨by decide +kernel, rfl⟩
theorem dX8_wordFrom_54 : decode cX8_wordFrom 54 = .ok (.iload_n 2, 1) ∧ 54 + 1 = 55 := ⟨by decide +kernel, rfl⟩
theorem dX8_wordFrom_55 : decode cX8_wordFrom 55 = .ok (.if_icmp .ge 15, 3) ∧ 55 + 3 = 58 ∧ ((55 : Nat) : Int) + (15) = ((70 : Nat) : Int) := ⟨by decide +kernel, rfl, by decide⟩
theorem dX8_wordFrom_58 : decode cX8_wordFrom 58 = .ok (.aload_n 0, 1) ∧ 58 + 1 = 59 := ⟨by decide +kernel, rfl⟩
theorem dX8_wordFrom_59 : decode cX8_wordFrom 59 = .ok (.getfield 28, 3) ∧ 59 + 3 = 62 := ⟨by decide +kernel, rfl⟩
theorem dX8_wordFrom_62 : decode cX8_wordFrom 62 = .ok (.iload_n 1, 1) ∧ 62 + 1 = 63 := ⟨by decide +kernel, rfl⟩
theorem dX8_wordFrom_63 : decode cX8_wordFrom 63 = .ok (.iload 5, 2) ∧ 63 + 2 = 65 := ⟨by decide +kernel, rfl⟩
theorem dX8_wordFrom_65 : decode cX8_wordFrom 65 = .ok (.iadd, 1) ∧ 65 + 1 = 66 := ⟨by decide +kernel, rfl⟩
theorem dX8_wordFrom_66 : decode cX8_wordFrom 66 = .ok (.iaload, 1) ∧ 66 + 1 = 67 := ⟨by decide +kernel, rfl⟩
theorem dX8_wordFrom_67 : decode cX8_wordFrom 67 = .ok (.goto 5, 3) ∧ ((67 : Nat) : Int) + (5) = ((72 : Nat) : Int) := ⟨by decide +kernel, by decide⟩
theorem dX8_wordFrom_70 : decode cX8_wordFrom 70 = .ok (.bipush 32, 2) ∧ 70 + 2 = 72 := ⟨by decide +kernel, rfl⟩
theorem dX8_wordFrom_72 : decode cX8_wordFrom 72 = .ok (.if_icmp .ne 7, 3) ∧ 72 + 3 = 75 ∧ ((72 : Nat) : Int) + (7) = ((79 : Nat) : Int) := ⟨by decide +kernel, rfl, by decide⟩
theorem dX8_wordFrom_75 : decode cX8_wordFrom 75 = .ok (.iconst 1, 1) ∧ 75 + 1 = 76 := ⟨by decide +kernel, rfl⟩
theorem dX8_wordFrom_76 : decode cX8_wordFrom 76 = .ok (.goto 4, 3) ∧ ((76 : Nat) : Int) + (4) = ((80 : Nat) : Int) := ⟨by decide +kernel, by decide⟩
theorem dX8_wordFrom_79 : decode cX8_wordFrom 79 = .ok (.iconst 0, 1) ∧ 79 + 1 = 80 := ⟨by decide +kernel, rfl⟩
theorem dX8_wordFrom_80 : decode cX8_wordFrom 80 = .ok (.istore 4, 2) ∧ 80 + 2 = 82 := ⟨by decide +kernel, rfl⟩
theorem dX8_wordFrom_82 : decode cX8_wordFrom 82 = .ok (.iinc 5 1, 3) ∧ 82 + 3 = 85 := ⟨by decide +kernel, rfl⟩
theorem dX8_wordFrom_85 : decode cX8_wordFrom 85 = .ok (.goto (-59), 3) ∧ ((85 : Nat) : Int) + (-59) = ((26 : Nat) : Int) := ⟨by decide +kernel, by decide⟩
theorem dX8_wordFrom_88 : decode cX8_wordFrom 88 = .ok (.iload 4, 2) ∧ 88 + 2 = 90 := ⟨by decide +kernel, rfl⟩
theorem dX8_wordFrom_90 : decode cX8_wordFrom 90 = .ok (.ifCond .eq 5, 3) ∧ 90 + 3 = 93 ∧ ((90 : Nat) : Int) + (5) = ((95 : Nat) : Int) := ⟨by decide +kernel, rfl, by decide⟩
theorem dX8_wordFrom_93 : decode cX8_wordFrom 93 = .ok (.iload_n 3, 1) ∧ 93 + 1 = 94 := ⟨by decide +kernel, rfl⟩
theorem dX8_wordFrom_94 : decode cX8_wordFrom 94 = .ok (.ireturn, 1) := by decide +kernel
theorem dX8_wordFrom_95 : decode cX8_wordFrom 95 = .ok (.iinc 3 1, 3) ∧ 95 + 3 = 98 := ⟨by decide +kernel, rfl⟩
theorem dX8_wordFrom_98 : decode cX8_wordFrom 98 = .ok (.goto (-96), 3) ∧ ((98 : Nat) : Int) + (-96) = ((2 : Nat) : Int) := ⟨by decide +kernel, by decide⟩
theorem dX8_wordFrom_101 : decode cX8_wordFrom 101 = .ok (.bipush 12, 2) ∧ 101 + 2 = 103 := ⟨by decide +kernel, rfl⟩
theorem dX8_wordFrom_103 : decode cX8_wordFrom 103 = .ok (.ireturn, 1) := by decide +kernel
def B_X8_wordFrom_88 (k2 : Hp → Int32 → Option (Int32 × Hp)) (fu : Nat) (o : Nat) (S : Hp) (x1 : Int32) (x2 : Int32) (x3 : Int32) (x4 : Int32) : Option (Int32 × Hp) :=
  if x4 = 0 then
    k2 S (x3 + (1 : Int32))
  else
    some (x3, S)
set_option maxRecDepth 100000 in
set_option maxHeartbeats 4000000 in
theorem w_X8_wordFrom_88 {E : Cx} {l : Launch} {res : Int32 × Hp} {ad : Nat → Nat} {k2 : Hp → Int32 → Option (Int32 × Hp)} {fu : Nat} {o : Nat} {S : Hp} {x1 : Int32} {x2 : Int32} {x3 : Int32} {x4 : Int32} (K : Kx E cX8_wordFrom RX8 (rmd 0 0 0)) (X : Bx E l yX8_wordFrom 6 (some .int) 0 0 ad (QI res)) (hk2 : ∀ (S : Hp) (x3 : Int32), k2 S x3 = some res → J E 0 0 2 [(0, vR (some o)), (1, vI x1), (2, vI x2), (3, vI x3)] [] S ad) (h : B_X8_wordFrom_88 k2 fu o S x1 x2 x3 x4 = some res) : J E 0 0 88 [(0, vR (some o)), (1, vI x1), (2, vI x2), (3, vI x3), (4, vI x4)] [] S ad := by
  refine j_iload K dX8_wordFrom_88 4 rfl ?_
  refine j_if_eq K dX8_wordFrom_90 (fun c90 => ?_) (fun c90 => ?_)
  · replace h := it c90 h
    refine j_iinc (q := 3) (v := (x3 + (1 : Int32))) (lv' := [(3, vI (x3 + (1 : Int32))), (0, vR (some o)), (1, vI x1), (2, vI x2), (4, vI x4)]) K dX8_wordFrom_95 rfl rfl X.2.2.1 (by decide) rfl ?_
    refine j_goto K dX8_wordFrom_98 ?_
    exact j_sub [1, 2, 3, 0] rfl (hk2 _ _ h)
  · replace h := ie c90 h
    refine j_iload_n K dX8_wordFrom_93 rfl 3 rfl ?_
    exact j_iret K X dX8_wordFrom_94 h
def B_X8_wordFrom_80 (k2 : Hp → Int32 → Option (Int32 × Hp)) (k26 : Hp → Int32 → Int32 → Option (Int32 × Hp)) (fu : Nat) (o : Nat) (S : Hp) (x1 : Int32) (x2 : Int32) (x3 : Int32) (x5 : Int32) (s0 : Int32) : Option (Int32 × Hp) :=
  k26 S s0 (x5 + (1 : Int32))
set_option maxRecDepth 100000 in
set_option maxHeartbeats 4000000 in
theorem w_X8_wordFrom_80 {E : Cx} {l : Launch} {res : Int32 × Hp} {ad : Nat → Nat} {k2 : Hp → Int32 → Option (Int32 × Hp)} {k26 : Hp → Int32 → Int32 → Option (Int32 × Hp)} {fu : Nat} {o : Nat} {S : Hp} {x1 : Int32} {x2 : Int32} {x3 : Int32} {x5 : Int32} {s0 : Int32} (K : Kx E cX8_wordFrom RX8 (rmd 0 0 0)) (X : Bx E l yX8_wordFrom 6 (some .int) 0 0 ad (QI res)) (hk2 : ∀ (S : Hp) (x3 : Int32), k2 S x3 = some res → J E 0 0 2 [(0, vR (some o)), (1, vI x1), (2, vI x2), (3, vI x3)] [] S ad) (hk26 : ∀ (S : Hp) (x4 : Int32) (x5 : Int32), k26 S x4 x5 = some res → J E 0 0 26 [(0, vR (some o)), (1, vI x1), (2, vI x2), (3, vI x3), (4, vI x4), (5, vI x5)] [] S ad) (h : B_X8_wordFrom_80 k2 k26 fu o S x1 x2 x3 x5 s0 = some res) : J E 0 0 80 [(0, vR (some o)), (1, vI x1), (2, vI x2), (3, vI x3), (5, vI x5)] [vI s0] S ad := by
  refine j_istore (lv' := [(4, vI s0), (0, vR (some o)), (1, vI x1), (2, vI x2), (3, vI x3), (5, vI x5)]) K dX8_wordFrom_80 X.2.2.1 (by decide) rfl ?_
  refine j_iinc (q := 5) (v := (x5 + (1 : Int32))) (lv' := [(5, vI (x5 + (1 : Int32))), (4, vI s0), (0, vR (some o)), (1, vI x1), (2, vI x2), (3, vI x3)]) K dX8_wordFrom_82 rfl rfl X.2.2.1 (by decide) rfl ?_
  refine j_goto K dX8_wordFrom_85 ?_
  exact j_sub [2, 3, 4, 5, 1, 0] rfl (hk26 _ _ _ h)
def B_X8_wordFrom_72 (k2 : Hp → Int32 → Option (Int32 × Hp)) (k26 : Hp → Int32 → Int32 → Option (Int32 × Hp)) (fu : Nat) (o : Nat) (S : Hp) (x1 : Int32) (x2 : Int32) (x3 : Int32) (x5 : Int32) (s0 : Int32) (s1 : Int32) : Option (Int32 × Hp) :=
  if s1 = s0 then
    B_X8_wordFrom_80 k2 k26 fu o S x1 x2 x3 x5 (1 : Int32)
  else
    B_X8_wordFrom_80 k2 k26 fu o S x1 x2 x3 x5 (0 : Int32)
set_option maxRecDepth 100000 in
set_option maxHeartbeats 4000000 in
theorem w_X8_wordFrom_72 {E : Cx} {l : Launch} {res : Int32 × Hp} {ad : Nat → Nat} {k2 : Hp → Int32 → Option (Int32 × Hp)} {k26 : Hp → Int32 → Int32 → Option (Int32 × Hp)} {fu : Nat} {o : Nat} {S : Hp} {x1 : Int32} {x2 : Int32} {x3 : Int32} {x5 : Int32} {s0 : Int32} {s1 : Int32} (K : Kx E cX8_wordFrom RX8 (rmd 0 0 0)) (X : Bx E l yX8_wordFrom 6 (some .int) 0 0 ad (QI res)) (hk2 : ∀ (S : Hp) (x3 : Int32), k2 S x3 = some res → J E 0 0 2 [(0, vR (some o)), (1, vI x1), (2, vI x2), (3, vI x3)] [] S ad) (hk26 : ∀ (S : Hp) (x4 : Int32) (x5 : Int32), k26 S x4 x5 = some res → J E 0 0 26 [(0, vR (some o)), (1, vI x1), (2, vI x2), (3, vI x3), (4, vI x4), (5, vI x5)] [] S ad) (h : B_X8_wordFrom_72 k2 k26 fu o S x1 x2 x3 x5 s0 s1 = some res) : J E 0 0 72 [(0, vR (some o)), (1, vI x1), (2, vI x2), (3, vI x3), (5, vI x5)] [vI s0, vI s1] S ad := by
  refine j_icmp_ne K dX8_wordFrom_72 (fun c72 => ?_) (fun c72 => ?_)
  · replace h := ie c72 h
    refine j_iconst (v := (0 : Int32)) K dX8_wordFrom_79 (by decide) ?_
    exact w_X8_wordFrom_80 K X hk2 hk26 h
  · replace h := it c72 h
    refine j_iconst (v := (1 : Int32)) K dX8_wordFrom_75 (by decide) ?_
    refine j_goto K dX8_wordFrom_76 ?_
    exact w_X8_wordFrom_80 K X hk2 hk26 h
def L_X8_wordFrom_26 (k2 : Hp → Int32 → Option (Int32 × Hp)) (k26 : Hp → Int32 → Int32 → Option (Int32 × Hp)) (fu : Nat) (o : Nat) (x1 : Int32) (x2 : Int32) (x3 : Int32) (S : Hp) (x4 : Int32) (x5 : Int32) : Option (Int32 × Hp) :=
  if (8 : Int32) ≤ x5 then
    B_X8_wordFrom_88 k2 fu o S x1 x2 x3 x4
  else
    if x4 = 0 then
      B_X8_wordFrom_88 k2 fu o S x1 x2 x3 x4
    else
      (gR S (some o) 6 26).bind fun v39 =>
      (aG S v39 (((8 : Int32) * x3) + x5)).bind fun v49 =>
      if x2 ≤ (x1 + x5) then
        B_X8_wordFrom_72 k2 k26 fu o S x1 x2 x3 x5 (32 : Int32) v49
      else
        (gR S (some o) 6 9).bind fun v59 =>
        (aG S v59 (x1 + x5)).bind fun v66 =>
        B_X8_wordFrom_72 k2 k26 fu o S x1 x2 x3 x5 v66 v49
set_option maxRecDepth 100000 in
set_option maxHeartbeats 4000000 in
theorem wl_X8_wordFrom_26 {E : Cx} {l : Launch} {res : Int32 × Hp} {ad : Nat → Nat} {k2 : Hp → Int32 → Option (Int32 × Hp)} {k26 : Hp → Int32 → Int32 → Option (Int32 × Hp)} {fu : Nat} {o : Nat} {S : Hp} {x1 : Int32} {x2 : Int32} {x3 : Int32} {x4 : Int32} {x5 : Int32} (K : Kx E cX8_wordFrom RX8 (rmd 0 0 0)) (X : Bx E l yX8_wordFrom 6 (some .int) 0 0 ad (QI res)) (hk2 : ∀ (S : Hp) (x3 : Int32), k2 S x3 = some res → J E 0 0 2 [(0, vR (some o)), (1, vI x1), (2, vI x2), (3, vI x3)] [] S ad) (hk26 : ∀ (S : Hp) (x4 : Int32) (x5 : Int32), k26 S x4 x5 = some res → J E 0 0 26 [(0, vR (some o)), (1, vI x1), (2, vI x2), (3, vI x3), (4, vI x4), (5, vI x5)] [] S ad) (h : L_X8_wordFrom_26 k2 k26 fu o x1 x2 x3 S x4 x5 = some res) : J E 0 0 26 [(0, vR (some o)), (1, vI x1), (2, vI x2), (3, vI x3), (4, vI x4), (5, vI x5)] [] S ad := by
  refine j_iload K dX8_wordFrom_26 5 rfl ?_
  refine j_bipush (v := (8 : Int32)) K dX8_wordFrom_28 (by decide) ?_
  refine j_icmp_ge K dX8_wordFrom_30 (fun c30 => ?_) (fun c30 => ?_)
  · replace h := it c30 h
    exact j_sub [0, 1, 2, 3, 4] rfl (w_X8_wordFrom_88 K X hk2 h)
  · replace h := ie c30 h
    refine j_iload K dX8_wordFrom_33 4 rfl ?_
    refine j_if_eq K dX8_wordFrom_35 (fun c35 => ?_) (fun c35 => ?_)
    · replace h := it c35 h
      exact j_sub [0, 1, 2, 3, 4] rfl (w_X8_wordFrom_88 K X hk2 h)
    · replace h := ie c35 h
      refine j_aload_n K dX8_wordFrom_38 rfl 0 rfl ?_
      obtain ⟨v39, e39, h⟩ := bd h
      refine fgX8_55 K dX8_wordFrom_39 e39 ?_
      refine j_bipush (v := (8 : Int32)) K dX8_wordFrom_42 (by decide) ?_
      refine j_iload_n K dX8_wordFrom_44 rfl 3 rfl ?_
      refine j_imul K dX8_wordFrom_45 ?_
      refine j_iload K dX8_wordFrom_46 5 rfl ?_
      refine j_iadd K dX8_wordFrom_48 ?_
      obtain ⟨v49, e49, h⟩ := bd h
      refine j_aG K dX8_wordFrom_49 e49 ?_
      refine j_iload_n K dX8_wordFrom_50 rfl 1 rfl ?_
      refine j_iload K dX8_wordFrom_51 5 rfl ?_
      refine j_iadd K dX8_wordFrom_53 ?_
      refine j_iload_n K dX8_wordFrom_54 rfl 2 rfl ?_
      refine j_icmp_ge K dX8_wordFrom_55 (fun c55 => ?_) (fun c55 => ?_)
      · replace h := it c55 h
        refine j_bipush (v := (32 : Int32)) K dX8_wordFrom_70 (by decide) ?_
        exact j_sub [0, 1, 2, 3, 5] rfl (w_X8_wordFrom_72 K X hk2 hk26 h)
      · replace h := ie c55 h
        refine j_aload_n K dX8_wordFrom_58 rfl 0 rfl ?_
        obtain ⟨v59, e59, h⟩ := bd h
        refine fgX8_28 K dX8_wordFrom_59 e59 ?_
        refine j_iload_n K dX8_wordFrom_62 rfl 1 rfl ?_
        refine j_iload K dX8_wordFrom_63 5 rfl ?_
        refine j_iadd K dX8_wordFrom_65 ?_
        obtain ⟨v66, e66, h⟩ := bd h
        refine j_aG K dX8_wordFrom_66 e66 ?_
        refine j_goto K dX8_wordFrom_67 ?_
        exact j_sub [0, 1, 2, 3, 5] rfl (w_X8_wordFrom_72 K X hk2 hk26 h)
def B_X8_wordFrom_26 (k2 : Hp → Int32 → Option (Int32 × Hp)) (fu : Nat) (o : Nat) (x1 : Int32) (x2 : Int32) (x3 : Int32) : Nat → Hp → Int32 → Int32 → Option (Int32 × Hp)
  | 0 => fun _ _ _ => none
  | n + 1 => L_X8_wordFrom_26 k2 (B_X8_wordFrom_26 k2 fu o x1 x2 x3 n) fu o x1 x2 x3
theorem w_X8_wordFrom_26 {E : Cx} {l : Launch} {res : Int32 × Hp} {ad : Nat → Nat} {k2 : Hp → Int32 → Option (Int32 × Hp)} {fu : Nat} {o : Nat} {x1 : Int32} {x2 : Int32} {x3 : Int32} (K : Kx E cX8_wordFrom RX8 (rmd 0 0 0)) (X : Bx E l yX8_wordFrom 6 (some .int) 0 0 ad (QI res)) (hk2 : ∀ (S : Hp) (x3 : Int32), k2 S x3 = some res → J E 0 0 2 [(0, vR (some o)), (1, vI x1), (2, vI x2), (3, vI x3)] [] S ad) : ∀ (n : Nat) (S : Hp) (x4 : Int32) (x5 : Int32), B_X8_wordFrom_26 k2 fu o x1 x2 x3 n S x4 x5 = some res → J E 0 0 26 [(0, vR (some o)), (1, vI x1), (2, vI x2), (3, vI x3), (4, vI x4), (5, vI x5)] [] S ad := by
  intro n
  induction n with
  | zero =>
    intro S x4 x5 h
    cases h
  | succ n ih =>
    intro S x4 x5 h
    exact wl_X8_wordFrom_26 K X hk2 ih h
def B_X8_wordFrom_21 (k2 : Hp → Int32 → Option (Int32 × Hp)) (fu : Nat) (o : Nat) (S : Hp) (x1 : Int32) (x2 : Int32) (x3 : Int32) (s0 : Int32) : Option (Int32 × Hp) :=
  B_X8_wordFrom_26 k2 fu o x1 x2 x3 fu S s0 (0 : Int32)
set_option maxRecDepth 100000 in
set_option maxHeartbeats 4000000 in
theorem w_X8_wordFrom_21 {E : Cx} {l : Launch} {res : Int32 × Hp} {ad : Nat → Nat} {k2 : Hp → Int32 → Option (Int32 × Hp)} {fu : Nat} {o : Nat} {S : Hp} {x1 : Int32} {x2 : Int32} {x3 : Int32} {s0 : Int32} (K : Kx E cX8_wordFrom RX8 (rmd 0 0 0)) (X : Bx E l yX8_wordFrom 6 (some .int) 0 0 ad (QI res)) (hk2 : ∀ (S : Hp) (x3 : Int32), k2 S x3 = some res → J E 0 0 2 [(0, vR (some o)), (1, vI x1), (2, vI x2), (3, vI x3)] [] S ad) (h : B_X8_wordFrom_21 k2 fu o S x1 x2 x3 s0 = some res) : J E 0 0 21 [(0, vR (some o)), (1, vI x1), (2, vI x2), (3, vI x3)] [vI s0] S ad := by
  refine j_istore (lv' := [(4, vI s0), (0, vR (some o)), (1, vI x1), (2, vI x2), (3, vI x3)]) K dX8_wordFrom_21 X.2.2.1 (by decide) rfl ?_
  refine j_iconst (v := (0 : Int32)) K dX8_wordFrom_23 (by decide) ?_
  refine j_istore (lv' := [(5, vI (0 : Int32)), (4, vI s0), (0, vR (some o)), (1, vI x1), (2, vI x2), (3, vI x3)]) K dX8_wordFrom_24 X.2.2.1 (by decide) rfl ?_
  exact j_sub [2, 3, 4, 5, 1, 0] rfl (w_X8_wordFrom_26 K X hk2 _ _ _ _ h)
def L_X8_wordFrom_2 (k2 : Hp → Int32 → Option (Int32 × Hp)) (fu : Nat) (o : Nat) (x1 : Int32) (x2 : Int32) (S : Hp) (x3 : Int32) : Option (Int32 × Hp) :=
  if (12 : Int32) ≤ x3 then
    some ((12 : Int32), S)
  else
    if (8 : Int32) < (x2 - x1) then
      B_X8_wordFrom_21 k2 fu o S x1 x2 x3 (0 : Int32)
    else
      B_X8_wordFrom_21 k2 fu o S x1 x2 x3 (1 : Int32)
set_option maxRecDepth 100000 in
set_option maxHeartbeats 4000000 in
theorem wl_X8_wordFrom_2 {E : Cx} {l : Launch} {res : Int32 × Hp} {ad : Nat → Nat} {k2 : Hp → Int32 → Option (Int32 × Hp)} {fu : Nat} {o : Nat} {S : Hp} {x1 : Int32} {x2 : Int32} {x3 : Int32} (K : Kx E cX8_wordFrom RX8 (rmd 0 0 0)) (X : Bx E l yX8_wordFrom 6 (some .int) 0 0 ad (QI res)) (hk2 : ∀ (S : Hp) (x3 : Int32), k2 S x3 = some res → J E 0 0 2 [(0, vR (some o)), (1, vI x1), (2, vI x2), (3, vI x3)] [] S ad) (h : L_X8_wordFrom_2 k2 fu o x1 x2 S x3 = some res) : J E 0 0 2 [(0, vR (some o)), (1, vI x1), (2, vI x2), (3, vI x3)] [] S ad := by
  refine j_iload_n K dX8_wordFrom_2 rfl 3 rfl ?_
  refine j_bipush (v := (12 : Int32)) K dX8_wordFrom_3 (by decide) ?_
  refine j_icmp_ge K dX8_wordFrom_5 (fun c5 => ?_) (fun c5 => ?_)
  · replace h := it c5 h
    refine j_bipush (v := (12 : Int32)) K dX8_wordFrom_101 (by decide) ?_
    exact j_iret K X dX8_wordFrom_103 h
  · replace h := ie c5 h
    refine j_iload_n K dX8_wordFrom_8 rfl 2 rfl ?_
    refine j_iload_n K dX8_wordFrom_9 rfl 1 rfl ?_
    refine j_isub K dX8_wordFrom_10 ?_
    refine j_bipush (v := (8 : Int32)) K dX8_wordFrom_11 (by decide) ?_
    refine j_icmp_gt K dX8_wordFrom_13 (fun c13 => ?_) (fun c13 => ?_)
    · replace h := it c13 h
      refine j_iconst (v := (0 : Int32)) K dX8_wordFrom_20 (by decide) ?_
      exact w_X8_wordFrom_21 K X hk2 h
    · replace h := ie c13 h
      refine j_iconst (v := (1 : Int32)) K dX8_wordFrom_16 (by decide) ?_
      refine j_goto K dX8_wordFrom_17 ?_
      exact w_X8_wordFrom_21 K X hk2 h
def B_X8_wordFrom_2 (fu : Nat) (o : Nat) (x1 : Int32) (x2 : Int32) : Nat → Hp → Int32 → Option (Int32 × Hp)
  | 0 => fun _ _ => none
  | n + 1 => L_X8_wordFrom_2 (B_X8_wordFrom_2 fu o x1 x2 n) fu o x1 x2
theorem w_X8_wordFrom_2 {E : Cx} {l : Launch} {res : Int32 × Hp} {ad : Nat → Nat} {fu : Nat} {o : Nat} {x1 : Int32} {x2 : Int32} (K : Kx E cX8_wordFrom RX8 (rmd 0 0 0)) (X : Bx E l yX8_wordFrom 6 (some .int) 0 0 ad (QI res)) : ∀ (n : Nat) (S : Hp) (x3 : Int32), B_X8_wordFrom_2 fu o x1 x2 n S x3 = some res → J E 0 0 2 [(0, vR (some o)), (1, vI x1), (2, vI x2), (3, vI x3)] [] S ad := by
  intro n
  induction n with
  | zero =>
    intro S x3 h
    cases h
  | succ n ih =>
    intro S x3 h
    exact wl_X8_wordFrom_2 K X ih h
def F_X8_wordFrom (fu : Nat) (S : Hp) (o : Nat) (x1 : Int32) (x2 : Int32) : Option (Int32 × Hp) :=
  B_X8_wordFrom_2 fu o x1 x2 fu S (0 : Int32)
set_option maxRecDepth 100000 in
set_option maxHeartbeats 4000000 in
theorem w_X8_wordFrom {E : Cx} {l : Launch} {res : Int32 × Hp} {ad : Nat → Nat} {fu : Nat} {S : Hp} {o : Nat} {x1 : Int32} {x2 : Int32} (K : Kx E cX8_wordFrom RX8 (rmd 0 0 0)) (X : Bx E l yX8_wordFrom 6 (some .int) 0 0 ad (QI res)) (h : F_X8_wordFrom fu S o x1 x2 = some res) : J E 0 0 0 [(0, vR (some o)), (1, vI x1), (2, vI x2)] [] S ad := by
  refine j_iconst (v := (0 : Int32)) K dX8_wordFrom_0 (by decide) ?_
  refine j_istore_n (lv' := [(3, vI (0 : Int32)), (0, vR (some o)), (1, vI x1), (2, vI x2)]) K dX8_wordFrom_1 rfl X.2.2.1 (by decide) rfl ?_
  exact j_sub [1, 2, 3, 0] rfl (w_X8_wordFrom_2 K X _ _ _ h)
theorem c_X8_wordFrom {l : Launch} {fu : Nat} {S : Hp} {o : Nat} {x1 : Int32} {x2 : Int32} {res : Int32 × Hp} (h : F_X8_wordFrom fu S o x1 x2 = some res) : Ct l yX8_wordFrom cX8_wordFrom 6 (some .int) (rmd 0 0 0) 0 0 [vR (some o), vI x1, vI x2] S (QI res) :=
  z_entry (by decide +kernel) (Nat.le_of_ble_eq_true rfl) (fun E ad K X => w_X8_wordFrom K X h)

theorem dX8_next_0 : decode cX8_next 0 = .ok (.aload_n 0, 1) ∧ 0 + 1 = 1 := ⟨by decide +kernel, rfl⟩
theorem dX8_next_1 : decode cX8_next 1 = .ok (.getfield 114, 3) ∧ 1 + 3 = 4 := ⟨by decide +kernel, rfl⟩
theorem dX8_next_4 : decode cX8_next 4 = .ok (.aload_n 0, 1) ∧ 4 + 1 = 5 := ⟨by decide +kernel, rfl⟩
theorem dX8_next_5 : decode cX8_next 5 = .ok (.getfield 76, 3) ∧ 5 + 3 = 8 := ⟨by decide +kernel, rfl⟩
theorem dX8_next_8 : decode cX8_next 8 = .ok (.if_icmp .ge 44, 3) ∧ 8 + 3 = 11 ∧ ((8 : Nat) : Int) + (44) = ((52 : Nat) : Int) := ⟨by decide +kernel, rfl, by decide⟩
theorem dX8_next_11 : decode cX8_next 11 = .ok (.aload_n 0, 1) ∧ 11 + 1 = 12 := ⟨by decide +kernel, rfl⟩
theorem dX8_next_12 : decode cX8_next 12 = .ok (.getfield 28, 3) ∧ 12 + 3 = 15 := ⟨by decide +kernel, rfl⟩
theorem dX8_next_15 : decode cX8_next 15 = .ok (.aload_n 0, 1) ∧ 15 + 1 = 16 := ⟨by decide +kernel, rfl⟩
theorem dX8_next_16 : decode cX8_next 16 = .ok (.getfield 114, 3) ∧ 16 + 3 = 19 := ⟨by decide +kernel, rfl⟩
theorem dX8_next_19 : decode cX8_next 19 = .ok (.iaload, 1) ∧ 19 + 1 = 20 := ⟨by decide +kernel, rfl⟩
theorem dX8_next_20 : decode cX8_next 20 = .ok (.bipush 32, 2) ∧ 20 + 2 = 22 := ⟨by decide +kernel, rfl⟩
theorem dX8_next_22 : decode cX8_next 22 = .ok (.if_icmp .eq 17, 3) ∧ 22 + 3 = 25 ∧ ((22 : Nat) : Int) + (17) = ((39 : Nat) : Int) := ⟨by decide +kernel, rfl, by decide⟩
theorem dX8_next_25 : decode cX8_next 25 = .ok (.aload_n 0, 1) ∧ 25 + 1 = 26 := ⟨by decide +kernel, rfl⟩
theorem dX8_next_26 : decode cX8_next 26 = .ok (.getfield 28, 3) ∧ 26 + 3 = 29 := ⟨by decide +kernel, rfl⟩
theorem dX8_next_29 : decode cX8_next 29 = .ok (.aload_n 0, 1) ∧ 29 + 1 = 30 := ⟨by decide +kernel, rfl⟩
theorem dX8_next_30 : decode cX8_next 30 = .ok (.getfield 114, 3) ∧ 30 + 3 = 33 := ⟨by decide +kernel, rfl⟩
theorem dX8_next_33 : decode cX8_next 33 = .ok (.iaload, 1) ∧ 33 + 1 = 34 := ⟨by decide +kernel, rfl⟩
theorem dX8_next_34 : decode cX8_next 34 = .ok (.bipush 10, 2) ∧ 34 + 2 = 36 := ⟨by decide +kernel, rfl⟩
theorem dX8_next_36 : decode cX8_next 36 = .ok (.if_icmp .ne 16, 3) ∧ 36 + 3 = 39 ∧ ((36 : Nat) : Int) + (16) = ((52 : Nat) : Int) := ⟨by decide +kernel, rfl, by decide⟩
theorem dX8_next_39 : decode cX8_next 39 = .ok (.aload_n 0, 1) ∧ 39 + 1 = 40 := ⟨by decide +kernel, rfl⟩
theorem dX8_next_40 : decode cX8_next 40 = .ok (.dup, 1) ∧ 40 + 1 = 41 := ⟨by decide +kernel, rfl⟩
theorem dX8_next_41 : decode cX8_next 41 = .ok (.getfield 114, 3) ∧ 41 + 3 = 44 := ⟨by decide +kernel, rfl⟩
theorem dX8_next_44 : decode cX8_next 44 = .ok (.iconst 1, 1) ∧ 44 + 1 = 45 := ⟨by decide +kernel, rfl⟩
theorem dX8_next_45 : decode cX8_next 45 = .ok (.iadd, 1) ∧ 45 + 1 = 46 := ⟨by decide +kernel, rfl⟩
theorem dX8_next_46 : decode cX8_next 46 = .ok (.putfield 114, 3) ∧ 46 + 3 = 49 := ⟨by decide +kernel, rfl⟩
theorem dX8_next_49 : decode cX8_next 49 = .ok (.goto (-49), 3) ∧ ((49 : Nat) : Int) + (-49) = ((0 : Nat) : Int) := ⟨by decide +kernel, by decide⟩
theorem dX8_next_52 : decode cX8_next 52 = .ok (.aload_n 0, 1) ∧ 52 + 1 = 53 := ⟨by decide +kernel, rfl⟩
theorem dX8_next_53 : decode cX8_next 53 = .ok (.aload_n 0, 1) ∧ 53 + 1 = 54 := ⟨by decide +kernel, rfl⟩
theorem dX8_next_54 : decode cX8_next 54 = .ok (.getfield 114, 3) ∧ 54 + 3 = 57 := ⟨by decide +kernel, rfl⟩
theorem dX8_next_57 : decode cX8_next 57 = .ok (.putfield 117, 3) ∧ 57 + 3 = 60 := ⟨by decide +kernel, rfl⟩
theorem dX8_next_60 : decode cX8_next 60 = .ok (.aload_n 0, 1) ∧ 60 + 1 = 61 := ⟨by decide +kernel, rfl⟩
theorem dX8_next_61 : decode cX8_next 61 = .ok (.iconst 0, 1) ∧ 61 + 1 = 62 := ⟨by decide +kernel, rfl⟩
theorem dX8_next_62 : decode cX8_next 62 = .ok (.putfield 120, 3) ∧ 62 + 3 = 65 := ⟨by decide +kernel, rfl⟩
theorem dX8_next_65 : decode cX8_next 65 = .ok (.aload_n 0, 1) ∧ 65 + 1 = 66 := ⟨by decide +kernel, rfl⟩
theorem dX8_next_66 : decode cX8_next 66 = .ok (.iconst 0, 1) ∧ 66 + 1 = 67 := ⟨by decide +kernel, rfl⟩
theorem dX8_next_67 : decode cX8_next 67 = .ok (.putfield 123, 3) ∧ 67 + 3 = 70 := ⟨by decide +kernel, rfl⟩
theorem dX8_next_70 : decode cX8_next 70 = .ok (.aload_n 0, 1) ∧ 70 + 1 = 71 := ⟨by decide +kernel, rfl⟩
theorem dX8_next_71 : decode cX8_next 71 = .ok (.getfield 114, 3) ∧ 71 + 3 = 74 := ⟨by decide +kernel, rfl⟩
theorem dX8_next_74 : decode cX8_next 74 = .ok (.aload_n 0, 1) ∧ 74 + 1 = 75 := ⟨by decide +kernel, rfl⟩
theorem dX8_next_75 : decode cX8_next 75 = .ok (.getfield 76, 3) ∧ 75 + 3 = 78 := ⟨by decide +kernel, rfl⟩
theorem dX8_next_78 : decode cX8_next 78 = .ok (.if_icmp .ne 4, 3) ∧ 78 + 3 = 81 ∧ ((78 : Nat) : Int) + (4) = ((82 : Nat) : Int) := ⟨by decide +kernel, rfl, by decide⟩
theorem dX8_next_81 : decode cX8_next 81 = .ok (.return_, 1) := by decide +kernel
theorem dX8_next_82 : decode cX8_next 82 = .ok (.aload_n 0, 1) ∧ 82 + 1 = 83 := ⟨by decide +kernel, rfl⟩
theorem dX8_next_83 : decode cX8_next 83 = .ok (.getfield 28, 3) ∧ 83 + 3 = 86 := ⟨by decide +kernel, rfl⟩
theorem dX8_next_86 : decode cX8_next 86 = .ok (.aload_n 0, 1) ∧ 86 + 1 = 87 := ⟨by decide +kernel, rfl⟩
theorem dX8_next_87 : decode cX8_next 87 = .ok (.getfield 114, 3) ∧ 87 + 3 = 90 := ⟨by decide +kernel, rfl⟩
theorem dX8_next_90 : decode cX8_next 90 = .ok (.iaload, 1) ∧ 90 + 1 = 91 := ⟨by decide +kernel, rfl⟩
theorem dX8_next_91 : decode cX8_next 91 = .ok (.istore_n 1, 1) ∧ 91 + 1 = 92 := ⟨by decide +kernel, rfl⟩
theorem dX8_next_92 : decode cX8_next 92 = .ok (.iload_n 1, 1) ∧ 92 + 1 = 93 := ⟨by decide +kernel, rfl⟩
theorem dX8_next_93 : decode cX8_next 93 = .ok (.bipush 97, 2) ∧ 93 + 2 = 95 := ⟨by decide +kernel, rfl⟩
theorem dX8_next_95 : decode cX8_next 95 = .ok (.bipush 122, 2) ∧ 95 + 2 = 97 := ⟨by decide +kernel, rfl⟩
theorem dX8_next_97 : decode cX8_next 97 = .ok (.invokestatic 87, 3) := by decide +kernel
theorem dX8_next_100 : decode cX8_next 100 = .ok (.ifCond .eq 117, 3) ∧ 100 + 3 = 103 ∧ ((100 : Nat) : Int) + (117) = ((217 : Nat) : Int) := ⟨by decide +kernel, rfl, by decide⟩
theorem dX8_next_103 : decode cX8_next 103 = .ok (.aload_n 0, 1) ∧ 103 + 1 = 104 := ⟨by decide +kernel, rfl⟩
theorem dX8_next_104 : decode cX8_next 104 = .ok (.getfield 114, 3) ∧ 104 + 3 = 107 := ⟨by decide +kernel, rfl⟩
theorem dX8_next_107 : decode cX8_next 107 = .ok (.aload_n 0, 1) ∧ 107 + 1 = 108 := ⟨by decide +kernel, rfl⟩
theorem dX8_next_108 : decode cX8_next 108 = .ok (.getfield 76, 3) ∧ 108 + 3 = 111 := ⟨by decide +kernel, rfl⟩
theorem dX8_next_111 : decode cX8_next 111 = .ok (.if_icmp .ge 35, 3) ∧ 111 + 3 = 114 ∧ ((111 : Nat) : Int) + (35) = ((146 : Nat) : Int) := ⟨by decide +kernel, rfl, by decide⟩
theorem dX8_next_114 : decode cX8_next 114 = .ok (.aload_n 0, 1) ∧ 114 + 1 = 115 := ⟨by decide +kernel, rfl⟩
theorem dX8_next_115 : decode cX8_next 115 = .ok (.getfield 28, 3) ∧ 115 + 3 = 118 := ⟨by decide +kernel, rfl⟩
theorem dX8_next_118 : decode cX8_next 118 = .ok (.aload_n 0, 1) ∧ 118 + 1 = 119 := ⟨by decide +kernel, rfl⟩
theorem dX8_next_119 : decode cX8_next 119 = .ok (.getfield 114, 3) ∧ 119 + 3 = 122 := ⟨by decide +kernel, rfl⟩
theorem dX8_next_122 : decode cX8_next 122 = .ok (.iaload, 1) ∧ 122 + 1 = 123 := ⟨by decide +kernel, rfl⟩
theorem dX8_next_123 : decode cX8_next 123 = .ok (.bipush 97, 2) ∧ 123 + 2 = 125 := ⟨by decide +kernel, rfl⟩
theorem dX8_next_125 : decode cX8_next 125 = .ok (.bipush 122, 2) ∧ 125 + 2 = 127 := ⟨by decide +kernel, rfl⟩
theorem dX8_next_127 : decode cX8_next 127 = .ok (.invokestatic 87, 3) := by decide +kernel
theorem dX8_next_130 : decode cX8_next 130 = .ok (.ifCond .eq 16, 3) ∧ 130 + 3 = 133 ∧ ((130 : Nat) : Int) + (16) = ((146 : Nat) : Int) := ⟨by decide +kernel, rfl, by decide⟩
theorem dX8_next_133 : decode cX8_next 133 = .ok (.aload_n 0, 1) ∧ 133 + 1 = 134 := ⟨by decide +kernel, rfl⟩
theorem dX8_next_134 : decode cX8_next 134 = .ok (.dup, 1) ∧ 134 + 1 = 135 := ⟨by decide +kernel, rfl⟩
theorem dX8_next_135 : decode cX8_next 135 = .ok (.getfield 114, 3) ∧ 135 + 3 = 138 := ⟨by decide +kernel, rfl⟩
theorem dX8_next_138 : decode cX8_next 138 = .ok (.iconst 1, 1) ∧ 138 + 1 = 139 := ⟨by decide +kernel, rfl⟩
theorem dX8_next_139 : decode cX8_next 139 = .ok (.iadd, 1) ∧ 139 + 1 = 140 := ⟨by decide +kernel, rfl⟩
theorem dX8_next_140 : decode cX8_next 140 = .ok (.putfield 114, 3) ∧ 140 + 3 = 143 := ⟨by decide +kernel, rfl⟩
theorem dX8_next_143 : decode cX8_next 143 = .ok (.goto (-40), 3) ∧ ((143 : Nat) : Int) + (-40) = ((103 : Nat) : Int) := ⟨by decide +kernel, by decide⟩
theorem dX8_next_146 : decode cX8_next 146 = .ok (.aload_n 0, 1) ∧ 146 + 1 = 147 := ⟨by decide +kernel, rfl⟩
theorem dX8_next_147 : decode cX8_next 147 = .ok (.aload_n 0, 1) ∧ 147 + 1 = 148 := ⟨by decide +kernel, rfl⟩
theorem dX8_next_148 : decode cX8_next 148 = .ok (.getfield 117, 3) ∧ 148 + 3 = 151 := ⟨by decide +kernel, rfl⟩
theorem dX8_next_151 : decode cX8_next 151 = .ok (.aload_n 0, 1) ∧ 151 + 1 = 152 := ⟨by decide +kernel, rfl⟩
theorem dX8_next_152 : decode cX8_next 152 = .ok (.getfield 114, 3) ∧ 152 + 3 = 155 := ⟨by decide +kernel, rfl⟩
theorem dX8_next_155 : decode cX8_next 155 = .ok (.invokevirtual 126, 3) := by decide +kernel
theorem dX8_next_158 : decode cX8_next 158 = .ok (.istore_n 2, 1) ∧ 158 + 1 = 159 := ⟨by decide +kernel, rfl⟩
theorem dX8_next_159 : decode cX8_next 159 = .ok (.aload_n 0, 1) ∧ 159 + 1 = 160 := ⟨by decide +kernel, rfl⟩
theorem dX8_next_160 : decode cX8_next 160 = .ok (.iload_n 2, 1) ∧ 160 + 1 = 161 := ⟨by decide +kernel, rfl⟩
theorem dX8_next_161 : decode cX8_next 161 = .ok (.iconst 3, 1) ∧ 161 + 1 = 162 := ⟨by decide +kernel, rfl⟩
theorem dX8_next_162 : decode cX8_next 162 = .ok (.if_icmp .ge 7, 3) ∧ 162 + 3 = 165 ∧ ((162 : Nat) : Int) + (7) = ((169 : Nat) : Int) := ⟨by decide +kernel, rfl, by decide⟩
theorem dX8_next_165 : decode cX8_next 165 = .ok (.iconst 3, 1) ∧ 165 + 1 = 166 := ⟨by decide +kernel, rfl⟩
theorem dX8_next_166 : decode cX8_next 166 = .ok (.goto 29, 3) ∧ ((166 : Nat) : Int) + (29) = ((195 : Nat) : Int) := ⟨by decide +kernel, by decide⟩
theorem dX8_next_169 : decode cX8_next 169 = .ok (.iload_n 2, 1) ∧ 169 + 1 = 170 := ⟨by decide +kernel, rfl⟩
theorem dX8_next_170 : decode cX8_next 170 = .ok (.bipush 9, 2) ∧ 170 + 2 = 172 := ⟨by decide +kernel, rfl⟩
theorem dX8_next_172 : decode cX8_next 172 = .ok (.if_icmp .ge 7, 3) ∧ 172 + 3 = 175 ∧ ((172 : Nat) : Int) + (7) = ((179 : Nat) : Int) := ⟨by decide +kernel, rfl, by decide⟩
theorem dX8_next_175 : decode cX8_next 175 = .ok (.iconst 2, 1) ∧ 175 + 1 = 176 := ⟨by decide +kernel, rfl⟩
theorem dX8_next_176 : decode cX8_next 176 = .ok (.goto 19, 3) ∧ ((176 : Nat) : Int) + (19) = ((195 : Nat) : Int) := ⟨by decide +kernel, by decide⟩
theorem dX8_next_179 : decode cX8_next 179 = .ok (.iload_n 2, 1) ∧ 179 + 1 = 180 := ⟨by decide +kernel, rfl⟩
theorem dX8_next_180 : decode cX8_next 180 = .ok (.bipush 12, 2) ∧ 180 + 2 = 182 := ⟨by decide +kernel, rfl⟩
theorem dX8_next_182 : decode cX8_next 182 = .ok (.if_icmp .ne 7, 3) ∧ 182 + 3 = 185 ∧ ((182 : Nat) : Int) + (7) = ((189 : Nat) : Int) := ⟨by decide +kernel, rfl, by decide⟩
theorem dX8_next_185 : decode cX8_next 185 = .ok (.iconst (-1), 1) ∧ 185 + 1 = 186 := ⟨by decide +kernel, rfl⟩
theorem dX8_next_186 : decode cX8_next 186 = .ok (.goto 9, 3) ∧ ((186 : Nat) : Int) + (9) = ((195 : Nat) : Int) := ⟨by decide +kernel, by decide⟩
theorem dX8_next_189 : decode cX8_next 189 = .ok (.iconst 4, 1) ∧ 189 + 1 = 190 := ⟨by decide +kernel, rfl⟩
theorem dX8_next_190 : decode cX8_next 190 = .ok (.iload_n 2, 1) ∧ 190 + 1 = 191 := ⟨by decide +kernel, rfl⟩
theorem dX8_next_191 : decode cX8_next 191 = .ok (.iadd, 1) ∧ 191 + 1 = 192 := ⟨by decide +kernel, rfl⟩
theorem dX8_next_192 : decode cX8_next 192 = .ok (.bipush 9, 2) ∧ 192 + 2 = 194 := ⟨by decide +kernel, rfl⟩
theorem dX8_next_194 : decode cX8_next 194 = .ok (.isub, 1) ∧ 194 + 1 = 195 := ⟨by decide +kernel, rfl⟩
theorem dX8_next_195 : decode cX8_next 195 = .ok (.putfield 120, 3) ∧ 195 + 3 = 198 := ⟨by decide +kernel, rfl⟩
theorem dX8_next_198 : decode cX8_next 198 = .ok (.aload_n 0, 1) ∧ 198 + 1 = 199 := ⟨by decide +kernel, rfl⟩
theorem dX8_next_199 : decode cX8_next 199 = .ok (.iload_n 2, 1) ∧ 199 + 1 = 200 := ⟨by decide +kernel, rfl⟩
theorem dX8_next_200 : decode cX8_next 200 = .ok (.iconst 3, 1) ∧ 200 + 1 = 201 := ⟨by decide +kernel, rfl⟩
theorem dX8_next_201 : decode cX8_next 201 = .ok (.if_icmp .ge 7, 3) ∧ 201 + 3 = 204 ∧ ((201 : Nat) : Int) + (7) = ((208 : Nat) : Int) := ⟨by decide +kernel, rfl, by decide⟩
theorem dX8_next_204 : decode cX8_next 204 = .ok (.iload_n 2, 1) ∧ 204 + 1 = 205 := ⟨by decide +kernel, rfl⟩
theorem dX8_next_205 : decode cX8_next 205 = .ok (.goto 6, 3) ∧ ((205 : Nat) : Int) + (6) = ((211 : Nat) : Int) := ⟨by decide +kernel, by decide⟩
theorem dX8_next_208 : decode cX8_next 208 = .ok (.iload_n 2, 1) ∧ 208 + 1 = 209 := ⟨by decide +kernel, rfl⟩
theorem dX8_next_209 : decode cX8_next 209 = .ok (.iconst 3, 1) ∧ 209 + 1 = 210 := ⟨by decide +kernel, rfl⟩
theorem dX8_next_210 : decode cX8_next 210 = .ok (.isub, 1) ∧ 210 + 1 = 211 := ⟨by decide +kernel, rfl⟩
theorem dX8_next_211 : decode cX8_next 211 = .ok (.putfield 123, 3) ∧ 211 + 3 = 214 := ⟨by decide +kernel, rfl⟩
theorem dX8_next_214 : decode cX8_next 214 = .ok (.goto 189, 3) ∧ ((214 : Nat) : Int) + (189) = ((403 : Nat) : Int) := ⟨by decide +kernel, by decide⟩
theorem dX8_next_217 : decode cX8_next 217 = .ok (.iload_n 1, 1) ∧ 217 + 1 = 218 := ⟨by decide +kernel, rfl⟩
theorem dX8_next_218 : decode cX8_next 218 = .ok (.bipush 48, 2) ∧ 218 + 2 = 220 := ⟨by decide +kernel, rfl⟩
theorem dX8_next_220 : decode cX8_next 220 = .ok (.bipush 57, 2) ∧ 220 + 2 = 222 := ⟨by decide +kernel, rfl⟩
theorem dX8_next_222 : decode cX8_next 222 = .ok (.invokestatic 87, 3) := by decide +kernel
theorem dX8_next_225 : decode cX8_next 225 = .ok (.ifCond .eq 101, 3) ∧ 225 + 3 = 228 ∧ ((225 : Nat) : Int) + (101) = ((326 : Nat) : Int) := ⟨by decide +kernel, rfl, by decide⟩
theorem dX8_next_228 : decode cX8_next 228 = .ok (.iconst 0, 1) ∧ 228 + 1 = 229 := ⟨by decide +kernel, rfl⟩
theorem dX8_next_229 : decode cX8_next 229 = .ok (.istore_n 2, 1) ∧ 229 + 1 = 230 := ⟨by decide +kernel, rfl⟩
theorem dX8_next_230 : decode cX8_next 230 = .ok (.aload_n 0, 1) ∧ 230 + 1 = 231 := ⟨by decide +kernel, rfl⟩
theorem dX8_next_231 : decode cX8_next 231 = .ok (.getfield 114, 3) ∧ 231 + 3 = 234 := ⟨by decide +kernel, rfl⟩
theorem dX8_next_234 : decode cX8_next 234 = .ok (.aload_n 0, 1) ∧ 234 + 1 = 235 := ⟨by decide +kernel, rfl⟩
theorem dX8_next_235 : decode cX8_next 235 = .ok (.getfield 76, 3) ∧ 235 + 3 = 238 := ⟨by decide +kernel, rfl⟩
theorem dX8_next_238 : decode cX8_next 238 = .ok (.if_icmp .ge 71, 3) ∧ 238 + 3 = 241 ∧ ((238 : Nat) : Int) + (71) = ((309 : Nat) : Int) := ⟨by decide +kernel, rfl, by decide⟩
theorem dX8_next_241 : decode cX8_next 241 = .ok (.aload_n 0, 1) ∧ 241 + 1 = 242 := ⟨by decide +kernel, rfl⟩
theorem dX8_next_242 : decode cX8_next 242 = .ok (.getfield 28, 3) ∧ 242 + 3 = 245 := ⟨by decide +kernel, rfl⟩
theorem dX8_next_245 : decode cX8_next 245 = .ok (.aload_n 0, 1) ∧ 245 + 1 = 246 := ⟨by decide +kernel, rfl⟩
theorem dX8_next_246 : decode cX8_next 246 = .ok (.getfield 114, 3) ∧ 246 + 3 = 249 := ⟨by decide +kernel, rfl⟩
theorem dX8_next_249 : decode cX8_next 249 = .ok (.iaload, 1) ∧ 249 + 1 = 250 := ⟨by decide +kernel, rfl⟩
theorem dX8_next_250 : decode cX8_next 250 = .ok (.bipush 48, 2) ∧ 250 + 2 = 252 := ⟨by decide +kernel, rfl⟩
theorem dX8_next_252 : decode cX8_next 252 = .ok (.bipush 57, 2) ∧ 252 + 2 = 254 := ⟨by decide +kernel, rfl⟩
theorem dX8_next_254 : decode cX8_next 254 = .ok (.invokestatic 87, 3) := by decide +kernel
theorem dX8_next_257 : decode cX8_next 257 = .ok (.ifCond .eq 52, 3) ∧ 257 + 3 = 260 ∧ ((257 : Nat) : Int) + (52) = ((309 : Nat) : Int) := ⟨by decide +kernel, rfl, by decide⟩
theorem dX8_next_260 : decode cX8_next 260 = .ok (.aload_n 0, 1) ∧ 260 + 1 = 261 := ⟨by decide +kernel, rfl⟩
theorem dX8_next_261 : decode cX8_next 261 = .ok (.iload_n 2, 1) ∧ 261 + 1 = 262 := ⟨by decide +kernel, rfl⟩
theorem dX8_next_262 : decode cX8_next 262 = .ok (.iconst 4, 1) ∧ 262 + 1 = 263 := ⟨by decide +kernel, rfl⟩
theorem dX8_next_263 : decode cX8_next 263 = .ok (.if_icmp .ge 26, 3) ∧ 263 + 3 = 266 ∧ ((263 : Nat) : Int) + (26) = ((289 : Nat) : Int) := ⟨by decide +kernel, rfl, by decide⟩
theorem dX8_next_266 : decode cX8_next 266 = .ok (.bipush 10, 2) ∧ 266 + 2 = 268 := ⟨by decide +kernel, rfl⟩
theorem dX8_next_268 : decode cX8_next 268 = .ok (.aload_n 0, 1) ∧ 268 + 1 = 269 := ⟨by decide +kernel, rfl⟩
theorem dX8_next_269 : decode cX8_next 269 = .ok (.getfield 123, 3) ∧ 269 + 3 = 272 := ⟨by decide +kernel, rfl⟩
theorem dX8_next_272 : decode cX8_next 272 = .ok (.imul, 1) ∧ 272 + 1 = 273 := ⟨by decide +kernel, rfl⟩
theorem dX8_next_273 : decode cX8_next 273 = .ok (.aload_n 0, 1) ∧ 273 + 1 = 274 := ⟨by decide +kernel, rfl⟩
theorem dX8_next_274 : decode cX8_next 274 = .ok (.getfield 28, 3) ∧ 274 + 3 = 277 := ⟨by decide +kernel, rfl⟩
theorem dX8_next_277 : decode cX8_next 277 = .ok (.aload_n 0, 1) ∧ 277 + 1 = 278 := ⟨by decide +kernel, rfl⟩
theorem dX8_next_278 : decode cX8_next 278 = .ok (.getfield 114, 3) ∧ 278 + 3 = 281 := ⟨by decide +kernel, rfl⟩
theorem dX8_next_281 : decode cX8_next 281 = .ok (.iaload, 1) ∧ 281 + 1 = 282 := ⟨by decide +kernel, rfl⟩
theorem dX8_next_282 : decode cX8_next 282 = .ok (.iadd, 1) ∧ 282 + 1 = 283 := ⟨by decide +kernel, rfl⟩
theorem dX8_next_283 : decode cX8_next 283 = .ok (.bipush 48, 2) ∧ 283 + 2 = 285 := ⟨by decide +kernel, rfl⟩
theorem dX8_next_285 : decode cX8_next 285 = .ok (.isub, 1) ∧ 285 + 1 = 286 := ⟨by decide +kernel, rfl⟩
theorem dX8_next_286 : decode cX8_next 286 = .ok (.goto 4, 3) ∧ ((286 : Nat) : Int) + (4) = ((290 : Nat) : Int) := ⟨by decide +kernel, by decide⟩
theorem dX8_next_289 : decode cX8_next 289 = .ok (.iconst 0, 1) ∧ 289 + 1 = 290 := ⟨by decide +kernel, rfl⟩
theorem dX8_next_290 : decode cX8_next 290 = .ok (.putfield 123, 3) ∧ 290 + 3 = 293 := ⟨by decide +kernel, rfl⟩
theorem dX8_next_293 : decode cX8_next 293 = .ok (.iinc 2 1, 3) ∧ 293 + 3 = 296 := ⟨by decide +kernel, rfl⟩
theorem dX8_next_296 : decode cX8_next 296 = .ok (.aload_n 0, 1) ∧ 296 + 1 = 297 := ⟨by decide +kernel, rfl⟩
theorem dX8_next_297 : decode cX8_next 297 = .ok (.dup, 1) ∧ 297 + 1 = 298 := ⟨by decide +kernel, rfl⟩
theorem dX8_next_298 : decode cX8_next 298 = .ok (.getfield 114, 3) ∧ 298 + 3 = 301 := ⟨by decide +kernel, rfl⟩
theorem dX8_next_301 : decode cX8_next 301 = .ok (.iconst 1, 1) ∧ 301 + 1 = 302 := ⟨by decide +kernel, rfl⟩
theorem dX8_next_302 : decode cX8_next 302 = .ok (.iadd, 1) ∧ 302 + 1 = 303 := ⟨by decide +kernel, rfl⟩
theorem dX8_next_303 : decode cX8_next 303 = .ok (.putfield 114, 3) ∧ 303 + 3 = 306 := ⟨by decide +kernel, rfl⟩
theorem dX8_next_306 : decode cX8_next 306 = .ok (.goto (-76), 3) ∧ ((306 : Nat) : Int) + (-76) = ((230 : Nat) : Int) := ⟨by decide +kernel, by decide⟩
theorem dX8_next_309 : decode cX8_next 309 = .ok (.aload_n 0, 1) ∧ 309 + 1 = 310 := ⟨by decide +kernel, rfl⟩
theorem dX8_next_310 : decode cX8_next 310 = .ok (.iload_n 2, 1) ∧ 310 + 1 = 311 := ⟨by decide +kernel, rfl⟩
theorem dX8_next_311 : decode cX8_next 311 = .ok (.iconst 4, 1) ∧ 311 + 1 = 312 := ⟨by decide +kernel, rfl⟩
theorem dX8_next_312 : decode cX8_next 312 = .ok (.if_icmp .le 7, 3) ∧ 312 + 3 = 315 ∧ ((312 : Nat) : Int) + (7) = ((319 : Nat) : Int) := ⟨by decide +kernel, rfl, by decide⟩
theorem dX8_next_315 : decode cX8_next 315 = .ok (.iconst (-1), 1) ∧ 315 + 1 = 316 := ⟨by decide +kernel, rfl⟩
theorem dX8_next_316 : decode cX8_next 316 = .ok (.goto 4, 3) ∧ ((316 : Nat) : Int) + (4) = ((320 : Nat) : Int) := ⟨by decide +kernel, by decide⟩
theorem dX8_next_319 : decode cX8_next 319 = .ok (.iconst 1, 1) ∧ 319 + 1 = 320 := ⟨by decide +kernel, rfl⟩
theorem dX8_next_320 : decode cX8_next 320 = .ok (.putfield 120, 3) ∧ 320 + 3 = 323 := ⟨by decide +kernel, rfl⟩
theorem dX8_next_323 : decode cX8_next 323 = .ok (.goto 80, 3) ∧ ((323 : Nat) : Int) + (80) = ((403 : Nat) : Int) := ⟨by decide +kernel, by decide⟩
theorem dX8_next_326 : decode cX8_next 326 = .ok (.iload_n 1, 1) ∧ 326 + 1 = 327 := ⟨by decide +kernel, rfl⟩
theorem dX8_next_327 : decode cX8_next 327 = .ok (.bipush 40, 2) ∧ 327 + 2 = 329 := ⟨by decide +kernel, rfl⟩
theorem dX8_next_329 : decode cX8_next 329 = .ok (.if_icmp .eq 45, 3) ∧ 329 + 3 = 332 ∧ ((329 : Nat) : Int) + (45) = ((374 : Nat) : Int) := ⟨by decide +kernel, rfl, by decide⟩
theorem dX8_next_332 : decode cX8_next 332 = .ok (.iload_n 1, 1) ∧ 332 + 1 = 333 := ⟨by decide +kernel, rfl⟩
theorem dX8_next_333 : decode cX8_next 333 = .ok (.bipush 41, 2) ∧ 333 + 2 = 335 := ⟨by decide +kernel, rfl⟩
theorem dX8_next_335 : decode cX8_next 335 = .ok (.if_icmp .eq 39, 3) ∧ 335 + 3 = 338 ∧ ((335 : Nat) : Int) + (39) = ((374 : Nat) : Int) := ⟨by decide +kernel, rfl, by decide⟩
theorem dX8_next_338 : decode cX8_next 338 = .ok (.iload_n 1, 1) ∧ 338 + 1 = 339 := ⟨by decide +kernel, rfl⟩
theorem dX8_next_339 : decode cX8_next 339 = .ok (.bipush 59, 2) ∧ 339 + 2 = 341 := ⟨by decide +kernel, rfl⟩
theorem dX8_next_341 : decode cX8_next 341 = .ok (.if_icmp .eq 33, 3) ∧ 341 + 3 = 344 ∧ ((341 : Nat) : Int) + (33) = ((374 : Nat) : Int) := ⟨by decide +kernel, rfl, by decide⟩
theorem dX8_next_344 : decode cX8_next 344 = .ok (.iload_n 1, 1) ∧ 344 + 1 = 345 := ⟨by decide +kernel, rfl⟩
theorem dX8_next_345 : decode cX8_next 345 = .ok (.bipush 43, 2) ∧ 345 + 2 = 347 := ⟨by decide +kernel, rfl⟩
theorem dX8_next_347 : decode cX8_next 347 = .ok (.if_icmp .eq 27, 3) ∧ 347 + 3 = 350 ∧ ((347 : Nat) : Int) + (27) = ((374 : Nat) : Int) := ⟨by decide +kernel, rfl, by decide⟩
theorem dX8_next_350 : decode cX8_next 350 = .ok (.iload_n 1, 1) ∧ 350 + 1 = 351 := ⟨by decide +kernel, rfl⟩
theorem dX8_next_351 : decode cX8_next 351 = .ok (.bipush 45, 2) ∧ 351 + 2 = 353 := ⟨by decide +kernel, rfl⟩
theorem dX8_next_353 : decode cX8_next 353 = .ok (.if_icmp .eq 21, 3) ∧ 353 + 3 = 356 ∧ ((353 : Nat) : Int) + (21) = ((374 : Nat) : Int) := ⟨by decide +kernel, rfl, by decide⟩
theorem dX8_next_356 : decode cX8_next 356 = .ok (.iload_n 1, 1) ∧ 356 + 1 = 357 := ⟨by decide +kernel, rfl⟩
theorem dX8_next_357 : decode cX8_next 357 = .ok (.bipush 42, 2) ∧ 357 + 2 = 359 := ⟨by decide +kernel, rfl⟩
theorem dX8_next_359 : decode cX8_next 359 = .ok (.if_icmp .eq 15, 3) ∧ 359 + 3 = 362 ∧ ((359 : Nat) : Int) + (15) = ((374 : Nat) : Int) := ⟨by decide +kernel, rfl, by decide⟩
theorem dX8_next_362 : decode cX8_next 362 = .ok (.iload_n 1, 1) ∧ 362 + 1 = 363 := ⟨by decide +kernel, rfl⟩
theorem dX8_next_363 : decode cX8_next 363 = .ok (.bipush 60, 2) ∧ 363 + 2 = 365 := ⟨by decide +kernel, rfl⟩
theorem dX8_next_365 : decode cX8_next 365 = .ok (.if_icmp .eq 9, 3) ∧ 365 + 3 = 368 ∧ ((365 : Nat) : Int) + (9) = ((374 : Nat) : Int) := ⟨by decide +kernel, rfl, by decide⟩
theorem dX8_next_368 : decode cX8_next 368 = .ok (.iload_n 1, 1) ∧ 368 + 1 = 369 := ⟨by decide +kernel, rfl⟩
theorem dX8_next_369 : decode cX8_next 369 = .ok (.bipush 61, 2) ∧ 369 + 2 = 371 := ⟨by decide +kernel, rfl⟩
theorem dX8_next_371 : decode cX8_next 371 = .ok (.if_icmp .ne 7, 3) ∧ 371 + 3 = 374 ∧ ((371 : Nat) : Int) + (7) = ((378 : Nat) : Int) := ⟨by decide +kernel, rfl, by decide⟩
theorem dX8_next_374 : decode cX8_next 374 = .ok (.iconst 1, 1) ∧ 374 + 1 = 375 := ⟨by decide +kernel, rfl⟩
theorem dX8_next_375 : decode cX8_next 375 = .ok (.goto 4, 3) ∧ ((375 : Nat) : Int) + (4) = ((379 : Nat) : Int) := ⟨by decide +kernel, by decide⟩
theorem dX8_next_378 : decode cX8_next 378 = .ok (.iconst 0, 1) ∧ 378 + 1 = 379 := ⟨by decide +kernel, rfl⟩
theorem dX8_next_379 : decode cX8_next 379 = .ok (.istore_n 2, 1) ∧ 379 + 1 = 380 := ⟨by decide +kernel, rfl⟩
theorem dX8_next_380 : decode cX8_next 380 = .ok (.aload_n 0, 1) ∧ 380 + 1 = 381 := ⟨by decide +kernel, rfl⟩
theorem dX8_next_381 : decode cX8_next 381 = .ok (.iload_n 2, 1) ∧ 381 + 1 = 382 := ⟨by decide +kernel, rfl⟩
theorem dX8_next_382 : decode cX8_next 382 = .ok (.ifCond .eq 7, 3) ∧ 382 + 3 = 385 ∧ ((382 : Nat) : Int) + (7) = ((389 : Nat) : Int) := ⟨by decide +kernel, rfl, by decide⟩
theorem dX8_next_385 : decode cX8_next 385 = .ok (.iload_n 1, 1) ∧ 385 + 1 = 386 := ⟨by decide +kernel, rfl⟩
theorem dX8_next_386 : decode cX8_next 386 = .ok (.goto 4, 3) ∧ ((386 : Nat) : Int) + (4) = ((390 : Nat) : Int) := ⟨by decide +kernel, by decide⟩
theorem dX8_next_389 : decode cX8_next 389 = .ok (.iconst (-1), 1) ∧ 389 + 1 = 390 := ⟨by decide +kernel, rfl⟩
theorem dX8_next_390 : decode cX8_next 390 = .ok (.putfield 120, 3) ∧ 390 + 3 = 393 := ⟨by decide +kernel, rfl⟩
theorem dX8_next_393 : decode cX8_next 393 = .ok (.aload_n 0, 1) ∧ 393 + 1 = 394 := ⟨by decide +kernel, rfl⟩
theorem dX8_next_394 : decode cX8_next 394 = .ok (.dup, 1) ∧ 394 + 1 = 395 := ⟨by decide +kernel, rfl⟩
theorem dX8_next_395 : decode cX8_next 395 = .ok (.getfield 114, 3) ∧ 395 + 3 = 398 := ⟨by decide +kernel, rfl⟩
theorem dX8_next_398 : decode cX8_next 398 = .ok (.iconst 1, 1) ∧ 398 + 1 = 399 := ⟨by decide +kernel, rfl⟩
theorem dX8_next_399 : decode cX8_next 399 = .ok (.iadd, 1) ∧ 399 + 1 = 400 := ⟨by decide +kernel, rfl⟩
theorem dX8_next_400 : decode cX8_next 400 = .ok (.putfield 114, 3) ∧ 400 + 3 = 403 := ⟨by decide +kernel, rfl⟩
theorem dX8_next_403 : decode cX8_next 403 = .ok (.return_, 1) := by decide +kernel
def B_X8_next_403 (fu : Nat) (o : Nat) (S : Hp) : Option (Hp) :=
  some S
set_option maxRecDepth 100000 in
set_option maxHeartbeats 4000000 in
theorem w_X8_next_403 {E : Cx} {l : Launch} {res : Hp} {ad : Nat → Nat} {fu : Nat} {o : Nat} {S : Hp} (K : Kx E cX8_next RX8 (rmd 1 0 0)) (X : Bx E l yX8_next 3 none 0 0 ad (QV res)) (h : B_X8_next_403 fu o S = some res) : J E 0 0 403 [] [] S ad := by
  exact j_vret K X dX8_next_403 h
def B_X8_next_211 (fu : Nat) (o : Nat) (S : Hp) (s0 : Int32) (s1 : Option Nat) : Option (Hp) :=
  (pI S s1 6 25 s0).bind fun S211 =>
  B_X8_next_403 fu o S211
set_option maxRecDepth 100000 in
set_option maxHeartbeats 4000000 in
theorem w_X8_next_211 {E : Cx} {l : Launch} {res : Hp} {ad : Nat → Nat} {fu : Nat} {o : Nat} {S : Hp} {s0 : Int32} {s1 : Option Nat} (K : Kx E cX8_next RX8 (rmd 1 0 0)) (X : Bx E l yX8_next 3 none 0 0 ad (QV res)) (h : B_X8_next_211 fu o S s0 s1 = some res) : J E 0 0 211 [] [vI s0, vR s1] S ad := by
  obtain ⟨S211, e211, h⟩ := bd h
  refine fpX8_123 K dX8_next_211 e211 ?_
  refine j_goto K dX8_next_214 ?_
  exact w_X8_next_403 K X h
def B_X8_next_195 (fu : Nat) (o : Nat) (S : Hp) (x2 : Int32) (s0 : Int32) (s1 : Option Nat) : Option (Hp) :=
  (pI S s1 6 24 s0).bind fun S195 =>
  if (3 : Int32) ≤ x2 then
    B_X8_next_211 fu o S195 (x2 - (3 : Int32)) (some o)
  else
    B_X8_next_211 fu o S195 x2 (some o)
set_option maxRecDepth 100000 in
set_option maxHeartbeats 4000000 in
theorem w_X8_next_195 {E : Cx} {l : Launch} {res : Hp} {ad : Nat → Nat} {fu : Nat} {o : Nat} {S : Hp} {x2 : Int32} {s0 : Int32} {s1 : Option Nat} (K : Kx E cX8_next RX8 (rmd 1 0 0)) (X : Bx E l yX8_next 3 none 0 0 ad (QV res)) (h : B_X8_next_195 fu o S x2 s0 s1 = some res) : J E 0 0 195 [(0, vR (some o)), (2, vI x2)] [vI s0, vR s1] S ad := by
  obtain ⟨S195, e195, h⟩ := bd h
  refine fpX8_120 K dX8_next_195 e195 ?_
  refine j_aload_n K dX8_next_198 rfl 0 rfl ?_
  refine j_iload_n K dX8_next_199 rfl 1 rfl ?_
  refine j_iconst (v := (3 : Int32)) K dX8_next_200 (by decide) ?_
  refine j_icmp_ge K dX8_next_201 (fun c201 => ?_) (fun c201 => ?_)
  · replace h := it c201 h
    refine j_iload_n K dX8_next_208 rfl 1 rfl ?_
    refine j_iconst (v := (3 : Int32)) K dX8_next_209 (by decide) ?_
    refine j_isub K dX8_next_210 ?_
    exact j_sub [] rfl (w_X8_next_211 K X h)
  · replace h := ie c201 h
    refine j_iload_n K dX8_next_204 rfl 1 rfl ?_
    refine j_goto K dX8_next_205 ?_
    exact j_sub [] rfl (w_X8_next_211 K X h)
def B_X8_next_146 (fu : Nat) (o : Nat) (S : Hp) : Option (Hp) :=
  (gI S (some o) 6 23).bind fun v148 =>
  (gI S (some o) 6 22).bind fun v152 =>
  (ob S 6 (some o)).bind fun _ =>
  b2 (F_X8_wordFrom fu S o v148 v152) fun v155 S155 =>
  if (3 : Int32) ≤ v155 then
    if (9 : Int32) ≤ v155 then
      if v155 = (12 : Int32) then
        B_X8_next_195 fu o S155 v155 (-1 : Int32) (some o)
      else
        B_X8_next_195 fu o S155 v155 (((4 : Int32) + v155) - (9 : Int32)) (some o)
    else
      B_X8_next_195 fu o S155 v155 (2 : Int32) (some o)
  else
    B_X8_next_195 fu o S155 v155 (3 : Int32) (some o)
set_option maxRecDepth 100000 in
set_option maxHeartbeats 4000000 in
theorem w_X8_next_146 {E : Cx} {l : Launch} {res : Hp} {ad : Nat → Nat} {fu : Nat} {o : Nat} {S : Hp} (K : Kx E cX8_next RX8 (rmd 1 0 0)) (X : Bx E l yX8_next 3 none 0 0 ad (QV res)) (h : B_X8_next_146 fu o S = some res) : J E 0 0 146 [(0, vR (some o))] [] S ad := by
  refine j_aload_n K dX8_next_146 rfl 0 rfl ?_
  refine j_aload_n K dX8_next_147 rfl 0 rfl ?_
  obtain ⟨v148, e148, h⟩ := bd h
  refine fgX8_117 K dX8_next_148 e148 ?_
  refine j_aload_n K dX8_next_151 rfl 0 rfl ?_
  obtain ⟨v152, e152, h⟩ := bd h
  refine fgX8_114 K dX8_next_152 e152 ?_
  obtain ⟨w155, ew155, h⟩ := bd h
  have ho155 := obS ew155
  obtain ⟨v155, S155, e155, h⟩ := bd2 h
  refine j_cI (st := []) K (r_V (vs := [vI v148, vI v152]) (n := 2) (o := o) K (c_X8_wordFrom e155) ho155 (by decide) rfl dX8_next_155 z815 z817 zs25 z13 z818 ⟨zd_X8_wordFrom, rfl, rfl, rfl, ⟨Nat.le_of_ble_eq_true rfl, Nat.le_of_ble_eq_true rfl⟩, Nat.le_of_ble_eq_true rfl, Nat.le_of_ble_eq_true rfl, Nat.le_of_ble_eq_true rfl⟩) rfl ?_
  refine j_istore_n (lv' := [(2, vI v155), (0, vR (some o))]) K dX8_next_158 rfl X.2.2.1 (by decide) rfl ?_
  refine j_aload_n K dX8_next_159 rfl 1 rfl ?_
  refine j_iload_n K dX8_next_160 rfl 0 rfl ?_
  refine j_iconst (v := (3 : Int32)) K dX8_next_161 (by decide) ?_
  refine j_icmp_ge K dX8_next_162 (fun c162 => ?_) (fun c162 => ?_)
  · replace h := it c162 h
    refine j_iload_n K dX8_next_169 rfl 0 rfl ?_
    refine j_bipush (v := (9 : Int32)) K dX8_next_170 (by decide) ?_
    refine j_icmp_ge K dX8_next_172 (fun c172 => ?_) (fun c172 => ?_)
    · replace h := it c172 h
      refine j_iload_n K dX8_next_179 rfl 0 rfl ?_
      refine j_bipush (v := (12 : Int32)) K dX8_next_180 (by decide) ?_
      refine j_icmp_ne K dX8_next_182 (fun c182 => ?_) (fun c182 => ?_)
      · replace h := ie c182 h
        refine j_iconst (v := (4 : Int32)) K dX8_next_189 (by decide) ?_
        refine j_iload_n K dX8_next_190 rfl 0 rfl ?_
        refine j_iadd K dX8_next_191 ?_
        refine j_bipush (v := (9 : Int32)) K dX8_next_192 (by decide) ?_
        refine j_isub K dX8_next_194 ?_
        exact j_sub [1, 0] rfl (w_X8_next_195 K X h)
      · replace h := it c182 h
        refine j_iconst (v := (-1 : Int32)) K dX8_next_185 (by decide) ?_
        refine j_goto K dX8_next_186 ?_
        exact j_sub [1, 0] rfl (w_X8_next_195 K X h)
    · replace h := ie c172 h
      refine j_iconst (v := (2 : Int32)) K dX8_next_175 (by decide) ?_
      refine j_goto K dX8_next_176 ?_
      exact j_sub [1, 0] rfl (w_X8_next_195 K X h)
  · replace h := ie c162 h
    refine j_iconst (v := (3 : Int32)) K dX8_next_165 (by decide) ?_
    refine j_goto K dX8_next_166 ?_
    exact j_sub [1, 0] rfl (w_X8_next_195 K X h)
def L_X8_next_103 (k103 : Hp → Option (Hp)) (fu : Nat) (o : Nat) (S : Hp) : Option (Hp) :=
  (gI S (some o) 6 22).bind fun v104 =>
  (gI S (some o) 6 10).bind fun v108 =>
  if v108 ≤ v104 then
    B_X8_next_146 fu o S
  else
    (gR S (some o) 6 9).bind fun v115 =>
    (gI S (some o) 6 22).bind fun v119 =>
    (aG S v115 v119).bind fun v122 =>
    b2 (F_X8_in S v122 (97 : Int32) (122 : Int32)) fun v127 S127 =>
    if v127 = 0 then
      B_X8_next_146 fu o S127
    else
      (gI S127 (some o) 6 22).bind fun v135 =>
      (pI S127 (some o) 6 22 (v135 + (1 : Int32))).bind fun S140 =>
      k103 S140
set_option maxRecDepth 100000 in
set_option maxHeartbeats 4000000 in
theorem wl_X8_next_103 {E : Cx} {l : Launch} {res : Hp} {ad : Nat → Nat} {k103 : Hp → Option (Hp)} {fu : Nat} {o : Nat} {S : Hp} (K : Kx E cX8_next RX8 (rmd 1 0 0)) (X : Bx E l yX8_next 3 none 0 0 ad (QV res)) (hk103 : ∀ (S : Hp) , k103 S  = some res → J E 0 0 103 [(0, vR (some o))] [] S ad) (h : L_X8_next_103 k103 fu o S = some res) : J E 0 0 103 [(0, vR (some o))] [] S ad := by
  refine j_aload_n K dX8_next_103 rfl 0 rfl ?_
  obtain ⟨v104, e104, h⟩ := bd h
  refine fgX8_114 K dX8_next_104 e104 ?_
  refine j_aload_n K dX8_next_107 rfl 0 rfl ?_
  obtain ⟨v108, e108, h⟩ := bd h
  refine fgX8_76 K dX8_next_108 e108 ?_
  refine j_icmp_ge K dX8_next_111 (fun c111 => ?_) (fun c111 => ?_)
  · replace h := it c111 h
    exact w_X8_next_146 K X h
  · replace h := ie c111 h
    refine j_aload_n K dX8_next_114 rfl 0 rfl ?_
    obtain ⟨v115, e115, h⟩ := bd h
    refine fgX8_28 K dX8_next_115 e115 ?_
    refine j_aload_n K dX8_next_118 rfl 0 rfl ?_
    obtain ⟨v119, e119, h⟩ := bd h
    refine fgX8_114 K dX8_next_119 e119 ?_
    obtain ⟨v122, e122, h⟩ := bd h
    refine j_aG K dX8_next_122 e122 ?_
    refine j_bipush (v := (97 : Int32)) K dX8_next_123 (by decide) ?_
    refine j_bipush (v := (122 : Int32)) K dX8_next_125 (by decide) ?_
    obtain ⟨v127, S127, e127, h⟩ := bd2 h
    refine j_cI (st := []) K (r_S (vs := [vI v122, vI (97 : Int32), vI (122 : Int32)]) (n := 3) K (c_X8_in e127) dX8_next_127 z812 z813 z13 z814 ⟨zd_X8_in, rfl, rfl, rfl, ⟨Nat.le_of_ble_eq_true rfl, Nat.le_of_ble_eq_true rfl⟩, Nat.le_of_ble_eq_true rfl, Nat.le_of_ble_eq_true rfl, Nat.le_of_ble_eq_true rfl⟩) rfl ?_
    refine j_if_eq K dX8_next_130 (fun c130 => ?_) (fun c130 => ?_)
    · replace h := it c130 h
      exact w_X8_next_146 K X h
    · replace h := ie c130 h
      refine j_aload_n K dX8_next_133 rfl 0 rfl ?_
      refine j_dup K dX8_next_134 rfl ?_
      obtain ⟨v135, e135, h⟩ := bd h
      refine fgX8_114 K dX8_next_135 e135 ?_
      refine j_iconst (v := (1 : Int32)) K dX8_next_138 (by decide) ?_
      refine j_iadd K dX8_next_139 ?_
      obtain ⟨S140, e140, h⟩ := bd h
      refine fpX8_114 K dX8_next_140 e140 ?_
      refine j_goto K dX8_next_143 ?_
      exact hk103 _ h
def B_X8_next_103 (fu : Nat) (o : Nat) : Nat → Hp → Option (Hp)
  | 0 => fun _ => none
  | n + 1 => L_X8_next_103 (B_X8_next_103 fu o n) fu o
theorem w_X8_next_103 {E : Cx} {l : Launch} {res : Hp} {ad : Nat → Nat} {fu : Nat} {o : Nat} (K : Kx E cX8_next RX8 (rmd 1 0 0)) (X : Bx E l yX8_next 3 none 0 0 ad (QV res)) : ∀ (n : Nat) (S : Hp), B_X8_next_103 fu o n S = some res → J E 0 0 103 [(0, vR (some o))] [] S ad := by
  intro n
  induction n with
  | zero =>
    intro S  h
    cases h
  | succ n ih =>
    intro S  h
    exact wl_X8_next_103 K X ih h
def B_X8_next_320 (fu : Nat) (o : Nat) (S : Hp) (s0 : Int32) (s1 : Option Nat) : Option (Hp) :=
  (pI S s1 6 24 s0).bind fun S320 =>
  B_X8_next_403 fu o S320
set_option maxRecDepth 100000 in
set_option maxHeartbeats 4000000 in
theorem w_X8_next_320 {E : Cx} {l : Launch} {res : Hp} {ad : Nat → Nat} {fu : Nat} {o : Nat} {S : Hp} {s0 : Int32} {s1 : Option Nat} (K : Kx E cX8_next RX8 (rmd 1 0 0)) (X : Bx E l yX8_next 3 none 0 0 ad (QV res)) (h : B_X8_next_320 fu o S s0 s1 = some res) : J E 0 0 320 [] [vI s0, vR s1] S ad := by
  obtain ⟨S320, e320, h⟩ := bd h
  refine fpX8_120 K dX8_next_320 e320 ?_
  refine j_goto K dX8_next_323 ?_
  exact w_X8_next_403 K X h
def B_X8_next_309 (fu : Nat) (o : Nat) (S : Hp) (x2 : Int32) : Option (Hp) :=
  if x2 ≤ (4 : Int32) then
    B_X8_next_320 fu o S (1 : Int32) (some o)
  else
    B_X8_next_320 fu o S (-1 : Int32) (some o)
set_option maxRecDepth 100000 in
set_option maxHeartbeats 4000000 in
theorem w_X8_next_309 {E : Cx} {l : Launch} {res : Hp} {ad : Nat → Nat} {fu : Nat} {o : Nat} {S : Hp} {x2 : Int32} (K : Kx E cX8_next RX8 (rmd 1 0 0)) (X : Bx E l yX8_next 3 none 0 0 ad (QV res)) (h : B_X8_next_309 fu o S x2 = some res) : J E 0 0 309 [(0, vR (some o)), (2, vI x2)] [] S ad := by
  refine j_aload_n K dX8_next_309 rfl 0 rfl ?_
  refine j_iload_n K dX8_next_310 rfl 1 rfl ?_
  refine j_iconst (v := (4 : Int32)) K dX8_next_311 (by decide) ?_
  refine j_icmp_le K dX8_next_312 (fun c312 => ?_) (fun c312 => ?_)
  · replace h := it c312 h
    refine j_iconst (v := (1 : Int32)) K dX8_next_319 (by decide) ?_
    exact j_sub [] rfl (w_X8_next_320 K X h)
  · replace h := ie c312 h
    refine j_iconst (v := (-1 : Int32)) K dX8_next_315 (by decide) ?_
    refine j_goto K dX8_next_316 ?_
    exact j_sub [] rfl (w_X8_next_320 K X h)
def B_X8_next_290 (k230 : Hp → Int32 → Option (Hp)) (fu : Nat) (o : Nat) (S : Hp) (x2 : Int32) (s0 : Int32) (s1 : Option Nat) : Option (Hp) :=
  (pI S s1 6 25 s0).bind fun S290 =>
  (gI S290 (some o) 6 22).bind fun v298 =>
  (pI S290 (some o) 6 22 (v298 + (1 : Int32))).bind fun S303 =>
  k230 S303 (x2 + (1 : Int32))
set_option maxRecDepth 100000 in
set_option maxHeartbeats 4000000 in
theorem w_X8_next_290 {E : Cx} {l : Launch} {res : Hp} {ad : Nat → Nat} {k230 : Hp → Int32 → Option (Hp)} {fu : Nat} {o : Nat} {S : Hp} {x2 : Int32} {s0 : Int32} {s1 : Option Nat} (K : Kx E cX8_next RX8 (rmd 1 0 0)) (X : Bx E l yX8_next 3 none 0 0 ad (QV res)) (hk230 : ∀ (S : Hp) (x2 : Int32), k230 S x2 = some res → J E 0 0 230 [(0, vR (some o)), (2, vI x2)] [] S ad) (h : B_X8_next_290 k230 fu o S x2 s0 s1 = some res) : J E 0 0 290 [(0, vR (some o)), (2, vI x2)] [vI s0, vR s1] S ad := by
  obtain ⟨S290, e290, h⟩ := bd h
  refine fpX8_123 K dX8_next_290 e290 ?_
  refine j_iinc (q := 1) (v := (x2 + (1 : Int32))) (lv' := [(2, vI (x2 + (1 : Int32))), (0, vR (some o))]) K dX8_next_293 rfl rfl X.2.2.1 (by decide) rfl ?_
  refine j_aload_n K dX8_next_296 rfl 1 rfl ?_
  refine j_dup K dX8_next_297 rfl ?_
  obtain ⟨v298, e298, h⟩ := bd h
  refine fgX8_114 K dX8_next_298 e298 ?_
  refine j_iconst (v := (1 : Int32)) K dX8_next_301 (by decide) ?_
  refine j_iadd K dX8_next_302 ?_
  obtain ⟨S303, e303, h⟩ := bd h
  refine fpX8_114 K dX8_next_303 e303 ?_
  refine j_goto K dX8_next_306 ?_
  exact j_sub [1, 0] rfl (hk230 _ _ h)
def L_X8_next_230 (k230 : Hp → Int32 → Option (Hp)) (fu : Nat) (o : Nat) (S : Hp) (x2 : Int32) : Option (Hp) :=
  (gI S (some o) 6 22).bind fun v231 =>
  (gI S (some o) 6 10).bind fun v235 =>
  if v235 ≤ v231 then
    B_X8_next_309 fu o S x2
  else
    (gR S (some o) 6 9).bind fun v242 =>
    (gI S (some o) 6 22).bind fun v246 =>
    (aG S v242 v246).bind fun v249 =>
    b2 (F_X8_in S v249 (48 : Int32) (57 : Int32)) fun v254 S254 =>
    if v254 = 0 then
      B_X8_next_309 fu o S254 x2
    else
      if (4 : Int32) ≤ x2 then
        B_X8_next_290 k230 fu o S254 x2 (0 : Int32) (some o)
      else
        (gI S254 (some o) 6 25).bind fun v269 =>
        (gR S254 (some o) 6 9).bind fun v274 =>
        (gI S254 (some o) 6 22).bind fun v278 =>
        (aG S254 v274 v278).bind fun v281 =>
        B_X8_next_290 k230 fu o S254 x2 ((((10 : Int32) * v269) + v281) - (48 : Int32)) (some o)
set_option maxRecDepth 100000 in
set_option maxHeartbeats 4000000 in
theorem wl_X8_next_230 {E : Cx} {l : Launch} {res : Hp} {ad : Nat → Nat} {k230 : Hp → Int32 → Option (Hp)} {fu : Nat} {o : Nat} {S : Hp} {x2 : Int32} (K : Kx E cX8_next RX8 (rmd 1 0 0)) (X : Bx E l yX8_next 3 none 0 0 ad (QV res)) (hk230 : ∀ (S : Hp) (x2 : Int32), k230 S x2 = some res → J E 0 0 230 [(0, vR (some o)), (2, vI x2)] [] S ad) (h : L_X8_next_230 k230 fu o S x2 = some res) : J E 0 0 230 [(0, vR (some o)), (2, vI x2)] [] S ad := by
  refine j_aload_n K dX8_next_230 rfl 0 rfl ?_
  obtain ⟨v231, e231, h⟩ := bd h
  refine fgX8_114 K dX8_next_231 e231 ?_
  refine j_aload_n K dX8_next_234 rfl 0 rfl ?_
  obtain ⟨v235, e235, h⟩ := bd h
  refine fgX8_76 K dX8_next_235 e235 ?_
  refine j_icmp_ge K dX8_next_238 (fun c238 => ?_) (fun c238 => ?_)
  · replace h := it c238 h
    exact w_X8_next_309 K X h
  · replace h := ie c238 h
    refine j_aload_n K dX8_next_241 rfl 0 rfl ?_
    obtain ⟨v242, e242, h⟩ := bd h
    refine fgX8_28 K dX8_next_242 e242 ?_
    refine j_aload_n K dX8_next_245 rfl 0 rfl ?_
    obtain ⟨v246, e246, h⟩ := bd h
    refine fgX8_114 K dX8_next_246 e246 ?_
    obtain ⟨v249, e249, h⟩ := bd h
    refine j_aG K dX8_next_249 e249 ?_
    refine j_bipush (v := (48 : Int32)) K dX8_next_250 (by decide) ?_
    refine j_bipush (v := (57 : Int32)) K dX8_next_252 (by decide) ?_
    obtain ⟨v254, S254, e254, h⟩ := bd2 h
    refine j_cI (st := []) K (r_S (vs := [vI v249, vI (48 : Int32), vI (57 : Int32)]) (n := 3) K (c_X8_in e254) dX8_next_254 z812 z813 z13 z814 ⟨zd_X8_in, rfl, rfl, rfl, ⟨Nat.le_of_ble_eq_true rfl, Nat.le_of_ble_eq_true rfl⟩, Nat.le_of_ble_eq_true rfl, Nat.le_of_ble_eq_true rfl, Nat.le_of_ble_eq_true rfl⟩) rfl ?_
    refine j_if_eq K dX8_next_257 (fun c257 => ?_) (fun c257 => ?_)
    · replace h := it c257 h
      exact w_X8_next_309 K X h
    · replace h := ie c257 h
      refine j_aload_n K dX8_next_260 rfl 0 rfl ?_
      refine j_iload_n K dX8_next_261 rfl 1 rfl ?_
      refine j_iconst (v := (4 : Int32)) K dX8_next_262 (by decide) ?_
      refine j_icmp_ge K dX8_next_263 (fun c263 => ?_) (fun c263 => ?_)
      · replace h := it c263 h
        refine j_iconst (v := (0 : Int32)) K dX8_next_289 (by decide) ?_
        exact w_X8_next_290 K X hk230 h
      · replace h := ie c263 h
        refine j_bipush (v := (10 : Int32)) K dX8_next_266 (by decide) ?_
        refine j_aload_n K dX8_next_268 rfl 0 rfl ?_
        obtain ⟨v269, e269, h⟩ := bd h
        refine fgX8_123 K dX8_next_269 e269 ?_
        refine j_imul K dX8_next_272 ?_
        refine j_aload_n K dX8_next_273 rfl 0 rfl ?_
        obtain ⟨v274, e274, h⟩ := bd h
        refine fgX8_28 K dX8_next_274 e274 ?_
        refine j_aload_n K dX8_next_277 rfl 0 rfl ?_
        obtain ⟨v278, e278, h⟩ := bd h
        refine fgX8_114 K dX8_next_278 e278 ?_
        obtain ⟨v281, e281, h⟩ := bd h
        refine j_aG K dX8_next_281 e281 ?_
        refine j_iadd K dX8_next_282 ?_
        refine j_bipush (v := (48 : Int32)) K dX8_next_283 (by decide) ?_
        refine j_isub K dX8_next_285 ?_
        refine j_goto K dX8_next_286 ?_
        exact w_X8_next_290 K X hk230 h
def B_X8_next_230 (fu : Nat) (o : Nat) : Nat → Hp → Int32 → Option (Hp)
  | 0 => fun _ _ => none
  | n + 1 => L_X8_next_230 (B_X8_next_230 fu o n) fu o
theorem w_X8_next_230 {E : Cx} {l : Launch} {res : Hp} {ad : Nat → Nat} {fu : Nat} {o : Nat} (K : Kx E cX8_next RX8 (rmd 1 0 0)) (X : Bx E l yX8_next 3 none 0 0 ad (QV res)) : ∀ (n : Nat) (S : Hp) (x2 : Int32), B_X8_next_230 fu o n S x2 = some res → J E 0 0 230 [(0, vR (some o)), (2, vI x2)] [] S ad := by
  intro n
  induction n with
  | zero =>
    intro S x2 h
    cases h
  | succ n ih =>
    intro S x2 h
    exact wl_X8_next_230 K X ih h
def B_X8_next_390 (fu : Nat) (o : Nat) (S : Hp) (s0 : Int32) (s1 : Option Nat) : Option (Hp) :=
  (pI S s1 6 24 s0).bind fun S390 =>
  (gI S390 (some o) 6 22).bind fun v395 =>
  (pI S390 (some o) 6 22 (v395 + (1 : Int32))).bind fun S400 =>
  B_X8_next_403 fu o S400
set_option maxRecDepth 100000 in
set_option maxHeartbeats 4000000 in
theorem w_X8_next_390 {E : Cx} {l : Launch} {res : Hp} {ad : Nat → Nat} {fu : Nat} {o : Nat} {S : Hp} {s0 : Int32} {s1 : Option Nat} (K : Kx E cX8_next RX8 (rmd 1 0 0)) (X : Bx E l yX8_next 3 none 0 0 ad (QV res)) (h : B_X8_next_390 fu o S s0 s1 = some res) : J E 0 0 390 [(0, vR (some o))] [vI s0, vR s1] S ad := by
  obtain ⟨S390, e390, h⟩ := bd h
  refine fpX8_120 K dX8_next_390 e390 ?_
  refine j_aload_n K dX8_next_393 rfl 0 rfl ?_
  refine j_dup K dX8_next_394 rfl ?_
  obtain ⟨v395, e395, h⟩ := bd h
  refine fgX8_114 K dX8_next_395 e395 ?_
  refine j_iconst (v := (1 : Int32)) K dX8_next_398 (by decide) ?_
  refine j_iadd K dX8_next_399 ?_
  obtain ⟨S400, e400, h⟩ := bd h
  refine fpX8_114 K dX8_next_400 e400 ?_
  exact j_sub [] rfl (w_X8_next_403 K X h)
def B_X8_next_379 (fu : Nat) (o : Nat) (S : Hp) (x1 : Int32) (s0 : Int32) : Option (Hp) :=
  if s0 = 0 then
    B_X8_next_390 fu o S (-1 : Int32) (some o)
  else
    B_X8_next_390 fu o S x1 (some o)
set_option maxRecDepth 100000 in
set_option maxHeartbeats 4000000 in
theorem w_X8_next_379 {E : Cx} {l : Launch} {res : Hp} {ad : Nat → Nat} {fu : Nat} {o : Nat} {S : Hp} {x1 : Int32} {s0 : Int32} (K : Kx E cX8_next RX8 (rmd 1 0 0)) (X : Bx E l yX8_next 3 none 0 0 ad (QV res)) (h : B_X8_next_379 fu o S x1 s0 = some res) : J E 0 0 379 [(0, vR (some o)), (1, vI x1)] [vI s0] S ad := by
  refine j_istore_n (lv' := [(2, vI s0), (0, vR (some o)), (1, vI x1)]) K dX8_next_379 rfl X.2.2.1 (by decide) rfl ?_
  refine j_aload_n K dX8_next_380 rfl 1 rfl ?_
  refine j_iload_n K dX8_next_381 rfl 0 rfl ?_
  refine j_if_eq K dX8_next_382 (fun c382 => ?_) (fun c382 => ?_)
  · replace h := it c382 h
    refine j_iconst (v := (-1 : Int32)) K dX8_next_389 (by decide) ?_
    exact j_sub [1] rfl (w_X8_next_390 K X h)
  · replace h := ie c382 h
    refine j_iload_n K dX8_next_385 rfl 2 rfl ?_
    refine j_goto K dX8_next_386 ?_
    exact j_sub [1] rfl (w_X8_next_390 K X h)
def B_X8_next_374 (fu : Nat) (o : Nat) (S : Hp) (x1 : Int32) : Option (Hp) :=
  B_X8_next_379 fu o S x1 (1 : Int32)
set_option maxRecDepth 100000 in
set_option maxHeartbeats 4000000 in
theorem w_X8_next_374 {E : Cx} {l : Launch} {res : Hp} {ad : Nat → Nat} {fu : Nat} {o : Nat} {S : Hp} {x1 : Int32} (K : Kx E cX8_next RX8 (rmd 1 0 0)) (X : Bx E l yX8_next 3 none 0 0 ad (QV res)) (h : B_X8_next_374 fu o S x1 = some res) : J E 0 0 374 [(0, vR (some o)), (1, vI x1)] [] S ad := by
  refine j_iconst (v := (1 : Int32)) K dX8_next_374 (by decide) ?_
  refine j_goto K dX8_next_375 ?_
  exact w_X8_next_379 K X h
def B_X8_next_52 (fu : Nat) (o : Nat) (S : Hp) : Option (Hp) :=
  (gI S (some o) 6 22).bind fun v54 =>
  (pI S (some o) 6 23 v54).bind fun S57 =>
  (pI S57 (some o) 6 24 (0 : Int32)).bind fun S62 =>
  (pI S62 (some o) 6 25 (0 : Int32)).bind fun S67 =>
  (gI S67 (some o) 6 22).bind fun v71 =>
  (gI S67 (some o) 6 10).bind fun v75 =>
  if v71 = v75 then
    some S67
  else
    (gR S67 (some o) 6 9).bind fun v83 =>
    (gI S67 (some o) 6 22).bind fun v87 =>
    (aG S67 v83 v87).bind fun v90 =>
    b2 (F_X8_in S67 v90 (97 : Int32) (122 : Int32)) fun v97 S97 =>
    if v97 = 0 then
      b2 (F_X8_in S97 v90 (48 : Int32) (57 : Int32)) fun v222 S222 =>
      if v222 = 0 then
        if v90 = (40 : Int32) then
          B_X8_next_374 fu o S222 v90
        else
          if v90 = (41 : Int32) then
            B_X8_next_374 fu o S222 v90
          else
            if v90 = (59 : Int32) then
              B_X8_next_374 fu o S222 v90
            else
              if v90 = (43 : Int32) then
                B_X8_next_374 fu o S222 v90
              else
                if v90 = (45 : Int32) then
                  B_X8_next_374 fu o S222 v90
                else
                  if v90 = (42 : Int32) then
                    B_X8_next_374 fu o S222 v90
                  else
                    if v90 = (60 : Int32) then
                      B_X8_next_374 fu o S222 v90
                    else
                      if v90 = (61 : Int32) then
                        B_X8_next_374 fu o S222 v90
                      else
                        B_X8_next_379 fu o S222 v90 (0 : Int32)
      else
        B_X8_next_230 fu o fu S222 (0 : Int32)
    else
      B_X8_next_103 fu o fu S97
set_option maxRecDepth 100000 in
set_option maxHeartbeats 4000000 in
theorem w_X8_next_52 {E : Cx} {l : Launch} {res : Hp} {ad : Nat → Nat} {fu : Nat} {o : Nat} {S : Hp} (K : Kx E cX8_next RX8 (rmd 1 0 0)) (X : Bx E l yX8_next 3 none 0 0 ad (QV res)) (h : B_X8_next_52 fu o S = some res) : J E 0 0 52 [(0, vR (some o))] [] S ad := by
  refine j_aload_n K dX8_next_52 rfl 0 rfl ?_
  refine j_aload_n K dX8_next_53 rfl 0 rfl ?_
  obtain ⟨v54, e54, h⟩ := bd h
  refine fgX8_114 K dX8_next_54 e54 ?_
  obtain ⟨S57, e57, h⟩ := bd h
  refine fpX8_117 K dX8_next_57 e57 ?_
  refine j_aload_n K dX8_next_60 rfl 0 rfl ?_
  refine j_iconst (v := (0 : Int32)) K dX8_next_61 (by decide) ?_
  obtain ⟨S62, e62, h⟩ := bd h
  refine fpX8_120 K dX8_next_62 e62 ?_
  refine j_aload_n K dX8_next_65 rfl 0 rfl ?_
  refine j_iconst (v := (0 : Int32)) K dX8_next_66 (by decide) ?_
  obtain ⟨S67, e67, h⟩ := bd h
  refine fpX8_123 K dX8_next_67 e67 ?_
  refine j_aload_n K dX8_next_70 rfl 0 rfl ?_
  obtain ⟨v71, e71, h⟩ := bd h
  refine fgX8_114 K dX8_next_71 e71 ?_
  refine j_aload_n K dX8_next_74 rfl 0 rfl ?_
  obtain ⟨v75, e75, h⟩ := bd h
  refine fgX8_76 K dX8_next_75 e75 ?_
  refine j_icmp_ne K dX8_next_78 (fun c78 => ?_) (fun c78 => ?_)
  · replace h := ie c78 h
    refine j_aload_n K dX8_next_82 rfl 0 rfl ?_
    obtain ⟨v83, e83, h⟩ := bd h
    refine fgX8_28 K dX8_next_83 e83 ?_
    refine j_aload_n K dX8_next_86 rfl 0 rfl ?_
    obtain ⟨v87, e87, h⟩ := bd h
    refine fgX8_114 K dX8_next_87 e87 ?_
    obtain ⟨v90, e90, h⟩ := bd h
    refine j_aG K dX8_next_90 e90 ?_
    refine j_istore_n (lv' := [(1, vI v90), (0, vR (some o))]) K dX8_next_91 rfl X.2.2.1 (by decide) rfl ?_
    refine j_iload_n K dX8_next_92 rfl 0 rfl ?_
    refine j_bipush (v := (97 : Int32)) K dX8_next_93 (by decide) ?_
    refine j_bipush (v := (122 : Int32)) K dX8_next_95 (by decide) ?_
    obtain ⟨v97, S97, e97, h⟩ := bd2 h
    refine j_cI (st := []) K (r_S (vs := [vI v90, vI (97 : Int32), vI (122 : Int32)]) (n := 3) K (c_X8_in e97) dX8_next_97 z812 z813 z13 z814 ⟨zd_X8_in, rfl, rfl, rfl, ⟨Nat.le_of_ble_eq_true rfl, Nat.le_of_ble_eq_true rfl⟩, Nat.le_of_ble_eq_true rfl, Nat.le_of_ble_eq_true rfl, Nat.le_of_ble_eq_true rfl⟩) rfl ?_
    refine j_if_eq K dX8_next_100 (fun c100 => ?_) (fun c100 => ?_)
    · replace h := it c100 h
      refine j_iload_n K dX8_next_217 rfl 0 rfl ?_
      refine j_bipush (v := (48 : Int32)) K dX8_next_218 (by decide) ?_
      refine j_bipush (v := (57 : Int32)) K dX8_next_220 (by decide) ?_
      obtain ⟨v222, S222, e222, h⟩ := bd2 h
      refine j_cI (st := []) K (r_S (vs := [vI v90, vI (48 : Int32), vI (57 : Int32)]) (n := 3) K (c_X8_in e222) dX8_next_222 z812 z813 z13 z814 ⟨zd_X8_in, rfl, rfl, rfl, ⟨Nat.le_of_ble_eq_true rfl, Nat.le_of_ble_eq_true rfl⟩, Nat.le_of_ble_eq_true rfl, Nat.le_of_ble_eq_true rfl, Nat.le_of_ble_eq_true rfl⟩) rfl ?_
      refine j_if_eq K dX8_next_225 (fun c225 => ?_) (fun c225 => ?_)
      · replace h := it c225 h
        refine j_iload_n K dX8_next_326 rfl 0 rfl ?_
        refine j_bipush (v := (40 : Int32)) K dX8_next_327 (by decide) ?_
        refine j_icmp_eq K dX8_next_329 (fun c329 => ?_) (fun c329 => ?_)
        · replace h := it c329 h
          exact j_sub [1, 0] rfl (w_X8_next_374 K X h)
        · replace h := ie c329 h
          refine j_iload_n K dX8_next_332 rfl 0 rfl ?_
          refine j_bipush (v := (41 : Int32)) K dX8_next_333 (by decide) ?_
          refine j_icmp_eq K dX8_next_335 (fun c335 => ?_) (fun c335 => ?_)
          · replace h := it c335 h
            exact j_sub [1, 0] rfl (w_X8_next_374 K X h)
          · replace h := ie c335 h
            refine j_iload_n K dX8_next_338 rfl 0 rfl ?_
            refine j_bipush (v := (59 : Int32)) K dX8_next_339 (by decide) ?_
            refine j_icmp_eq K dX8_next_341 (fun c341 => ?_) (fun c341 => ?_)
            · replace h := it c341 h
              exact j_sub [1, 0] rfl (w_X8_next_374 K X h)
            · replace h := ie c341 h
              refine j_iload_n K dX8_next_344 rfl 0 rfl ?_
              refine j_bipush (v := (43 : Int32)) K dX8_next_345 (by decide) ?_
              refine j_icmp_eq K dX8_next_347 (fun c347 => ?_) (fun c347 => ?_)
              · replace h := it c347 h
                exact j_sub [1, 0] rfl (w_X8_next_374 K X h)
              · replace h := ie c347 h
                refine j_iload_n K dX8_next_350 rfl 0 rfl ?_
                refine j_bipush (v := (45 : Int32)) K dX8_next_351 (by decide) ?_
                refine j_icmp_eq K dX8_next_353 (fun c353 => ?_) (fun c353 => ?_)
                · replace h := it c353 h
                  exact j_sub [1, 0] rfl (w_X8_next_374 K X h)
                · replace h := ie c353 h
                  refine j_iload_n K dX8_next_356 rfl 0 rfl ?_
                  refine j_bipush (v := (42 : Int32)) K dX8_next_357 (by decide) ?_
                  refine j_icmp_eq K dX8_next_359 (fun c359 => ?_) (fun c359 => ?_)
                  · replace h := it c359 h
                    exact j_sub [1, 0] rfl (w_X8_next_374 K X h)
                  · replace h := ie c359 h
                    refine j_iload_n K dX8_next_362 rfl 0 rfl ?_
                    refine j_bipush (v := (60 : Int32)) K dX8_next_363 (by decide) ?_
                    refine j_icmp_eq K dX8_next_365 (fun c365 => ?_) (fun c365 => ?_)
                    · replace h := it c365 h
                      exact j_sub [1, 0] rfl (w_X8_next_374 K X h)
                    · replace h := ie c365 h
                      refine j_iload_n K dX8_next_368 rfl 0 rfl ?_
                      refine j_bipush (v := (61 : Int32)) K dX8_next_369 (by decide) ?_
                      refine j_icmp_ne K dX8_next_371 (fun c371 => ?_) (fun c371 => ?_)
                      · replace h := ie c371 h
                        refine j_iconst (v := (0 : Int32)) K dX8_next_378 (by decide) ?_
                        exact j_sub [1, 0] rfl (w_X8_next_379 K X h)
                      · replace h := it c371 h
                        exact j_sub [1, 0] rfl (w_X8_next_374 K X h)
      · replace h := ie c225 h
        refine j_iconst (v := (0 : Int32)) K dX8_next_228 (by decide) ?_
        refine j_istore_n (lv' := [(2, vI (0 : Int32)), (1, vI v90), (0, vR (some o))]) K dX8_next_229 rfl X.2.2.1 (by decide) rfl ?_
        exact j_sub [2, 0] rfl (w_X8_next_230 K X _ _ _ h)
    · replace h := ie c100 h
      exact j_sub [1] rfl (w_X8_next_103 K X _ _ h)
  · replace h := it c78 h
    exact j_vret K X dX8_next_81 h
def B_X8_next_39 (k0 : Hp → Option (Hp)) (fu : Nat) (o : Nat) (S : Hp) : Option (Hp) :=
  (gI S (some o) 6 22).bind fun v41 =>
  (pI S (some o) 6 22 (v41 + (1 : Int32))).bind fun S46 =>
  k0 S46
set_option maxRecDepth 100000 in
set_option maxHeartbeats 4000000 in
theorem w_X8_next_39 {E : Cx} {l : Launch} {res : Hp} {ad : Nat → Nat} {k0 : Hp → Option (Hp)} {fu : Nat} {o : Nat} {S : Hp} (K : Kx E cX8_next RX8 (rmd 1 0 0)) (X : Bx E l yX8_next 3 none 0 0 ad (QV res)) (hk0 : ∀ (S : Hp) , k0 S  = some res → J E 0 0 0 [(0, vR (some o))] [] S ad) (h : B_X8_next_39 k0 fu o S = some res) : J E 0 0 39 [(0, vR (some o))] [] S ad := by
  refine j_aload_n K dX8_next_39 rfl 0 rfl ?_
  refine j_dup K dX8_next_40 rfl ?_
  obtain ⟨v41, e41, h⟩ := bd h
  refine fgX8_114 K dX8_next_41 e41 ?_
  refine j_iconst (v := (1 : Int32)) K dX8_next_44 (by decide) ?_
  refine j_iadd K dX8_next_45 ?_
  obtain ⟨S46, e46, h⟩ := bd h
  refine fpX8_114 K dX8_next_46 e46 ?_
  refine j_goto K dX8_next_49 ?_
  exact hk0 _ h
def L_X8_next_0 (k0 : Hp → Option (Hp)) (fu : Nat) (o : Nat) (S : Hp) : Option (Hp) :=
  (gI S (some o) 6 22).bind fun v1 =>
  (gI S (some o) 6 10).bind fun v5 =>
  if v5 ≤ v1 then
    B_X8_next_52 fu o S
  else
    (gR S (some o) 6 9).bind fun v12 =>
    (gI S (some o) 6 22).bind fun v16 =>
    (aG S v12 v16).bind fun v19 =>
    if v19 = (32 : Int32) then
      B_X8_next_39 k0 fu o S
    else
      (gR S (some o) 6 9).bind fun v26 =>
      (gI S (some o) 6 22).bind fun v30 =>
      (aG S v26 v30).bind fun v33 =>
      if v33 = (10 : Int32) then
        B_X8_next_39 k0 fu o S
      else
        B_X8_next_52 fu o S
set_option maxRecDepth 100000 in
set_option maxHeartbeats 4000000 in
theorem wl_X8_next_0 {E : Cx} {l : Launch} {res : Hp} {ad : Nat → Nat} {k0 : Hp → Option (Hp)} {fu : Nat} {o : Nat} {S : Hp} (K : Kx E cX8_next RX8 (rmd 1 0 0)) (X : Bx E l yX8_next 3 none 0 0 ad (QV res)) (hk0 : ∀ (S : Hp) , k0 S  = some res → J E 0 0 0 [(0, vR (some o))] [] S ad) (h : L_X8_next_0 k0 fu o S = some res) : J E 0 0 0 [(0, vR (some o))] [] S ad := by
  refine j_aload_n K dX8_next_0 rfl 0 rfl ?_
  obtain ⟨v1, e1, h⟩ := bd h
  refine fgX8_114 K dX8_next_1 e1 ?_
  refine j_aload_n K dX8_next_4 rfl 0 rfl ?_
  obtain ⟨v5, e5, h⟩ := bd h
  refine fgX8_76 K dX8_next_5 e5 ?_
  refine j_icmp_ge K dX8_next_8 (fun c8 => ?_) (fun c8 => ?_)
  · replace h := it c8 h
    exact w_X8_next_52 K X h
  · replace h := ie c8 h
    refine j_aload_n K dX8_next_11 rfl 0 rfl ?_
    obtain ⟨v12, e12, h⟩ := bd h
    refine fgX8_28 K dX8_next_12 e12 ?_
    refine j_aload_n K dX8_next_15 rfl 0 rfl ?_
    obtain ⟨v16, e16, h⟩ := bd h
    refine fgX8_114 K dX8_next_16 e16 ?_
    obtain ⟨v19, e19, h⟩ := bd h
    refine j_aG K dX8_next_19 e19 ?_
    refine j_bipush (v := (32 : Int32)) K dX8_next_20 (by decide) ?_
    refine j_icmp_eq K dX8_next_22 (fun c22 => ?_) (fun c22 => ?_)
    · replace h := it c22 h
      exact w_X8_next_39 K X hk0 h
    · replace h := ie c22 h
      refine j_aload_n K dX8_next_25 rfl 0 rfl ?_
      obtain ⟨v26, e26, h⟩ := bd h
      refine fgX8_28 K dX8_next_26 e26 ?_
      refine j_aload_n K dX8_next_29 rfl 0 rfl ?_
      obtain ⟨v30, e30, h⟩ := bd h
      refine fgX8_114 K dX8_next_30 e30 ?_
      obtain ⟨v33, e33, h⟩ := bd h
      refine j_aG K dX8_next_33 e33 ?_
      refine j_bipush (v := (10 : Int32)) K dX8_next_34 (by decide) ?_
      refine j_icmp_ne K dX8_next_36 (fun c36 => ?_) (fun c36 => ?_)
      · replace h := ie c36 h
        exact w_X8_next_52 K X h
      · replace h := it c36 h
        exact w_X8_next_39 K X hk0 h
def B_X8_next_0 (fu : Nat) (o : Nat) : Nat → Hp → Option (Hp)
  | 0 => fun _ => none
  | n + 1 => L_X8_next_0 (B_X8_next_0 fu o n) fu o
theorem w_X8_next_0 {E : Cx} {l : Launch} {res : Hp} {ad : Nat → Nat} {fu : Nat} {o : Nat} (K : Kx E cX8_next RX8 (rmd 1 0 0)) (X : Bx E l yX8_next 3 none 0 0 ad (QV res)) : ∀ (n : Nat) (S : Hp), B_X8_next_0 fu o n S = some res → J E 0 0 0 [(0, vR (some o))] [] S ad := by
  intro n
  induction n with
  | zero =>
    intro S  h
    cases h
  | succ n ih =>
    intro S  h
    exact wl_X8_next_0 K X ih h
def F_X8_next (fu : Nat) (S : Hp) (o : Nat) : Option (Hp) :=
  B_X8_next_0 fu o fu S
set_option maxRecDepth 100000 in
set_option maxHeartbeats 4000000 in
theorem w_X8_next {E : Cx} {l : Launch} {res : Hp} {ad : Nat → Nat} {fu : Nat} {S : Hp} {o : Nat} (K : Kx E cX8_next RX8 (rmd 1 0 0)) (X : Bx E l yX8_next 3 none 0 0 ad (QV res)) (h : F_X8_next fu S o = some res) : J E 0 0 0 [(0, vR (some o))] [] S ad := by
  exact w_X8_next_0 K X _ _ h
theorem c_X8_next {l : Launch} {fu : Nat} {S : Hp} {o : Nat} {res : Hp} (h : F_X8_next fu S o = some res) : Ct l yX8_next cX8_next 3 none (rmd 1 0 0) 0 0 [vR (some o)] S (QV res) :=
  z_entry (by decide +kernel) (Nat.le_of_ble_eq_true rfl) (fun E ad K X => w_X8_next K X h)

theorem dX8_puts_0 : decode cX8_puts 0 = .ok (.aload_n 0, 1) ∧ 0 + 1 = 1 := ⟨by decide +kernel, rfl⟩
theorem dX8_puts_1 : decode cX8_puts 1 = .ok (.getfield 31, 3) ∧ 1 + 3 = 4 := ⟨by decide +kernel, rfl⟩
theorem dX8_puts_4 : decode cX8_puts 4 = .ok (.sipush 200, 3) ∧ 4 + 3 = 7 := ⟨by decide +kernel, rfl⟩
theorem dX8_puts_7 : decode cX8_puts 7 = .ok (.aload_n 0, 1) ∧ 7 + 1 = 8 := ⟨by decide +kernel, rfl⟩
theorem dX8_puts_8 : decode cX8_puts 8 = .ok (.getfield 97, 3) ∧ 8 + 3 = 11 := ⟨by decide +kernel, rfl⟩
theorem dX8_puts_11 : decode cX8_puts 11 = .ok (.imul, 1) ∧ 11 + 1 = 12 := ⟨by decide +kernel, rfl⟩
theorem dX8_puts_12 : decode cX8_puts 12 = .ok (.aload_n 0, 1) ∧ 12 + 1 = 13 := ⟨by decide +kernel, rfl⟩
theorem dX8_puts_13 : decode cX8_puts 13 = .ok (.getfield 130, 3) ∧ 13 + 3 = 16 := ⟨by decide +kernel, rfl⟩
theorem dX8_puts_16 : decode cX8_puts 16 = .ok (.iadd, 1) ∧ 16 + 1 = 17 := ⟨by decide +kernel, rfl⟩
theorem dX8_puts_17 : decode cX8_puts 17 = .ok (.iload_n 1, 1) ∧ 17 + 1 = 18 := ⟨by decide +kernel, rfl⟩
theorem dX8_puts_18 : decode cX8_puts 18 = .ok (.iastore, 1) ∧ 18 + 1 = 19 := ⟨by decide +kernel, rfl⟩
theorem dX8_puts_19 : decode cX8_puts 19 = .ok (.aload_n 0, 1) ∧ 19 + 1 = 20 := ⟨by decide +kernel, rfl⟩
theorem dX8_puts_20 : decode cX8_puts 20 = .ok (.dup, 1) ∧ 20 + 1 = 21 := ⟨by decide +kernel, rfl⟩
theorem dX8_puts_21 : decode cX8_puts 21 = .ok (.getfield 130, 3) ∧ 21 + 3 = 24 := ⟨by decide +kernel, rfl⟩
theorem dX8_puts_24 : decode cX8_puts 24 = .ok (.iconst 1, 1) ∧ 24 + 1 = 25 := ⟨by decide +kernel, rfl⟩
theorem dX8_puts_25 : decode cX8_puts 25 = .ok (.iadd, 1) ∧ 25 + 1 = 26 := ⟨by decide +kernel, rfl⟩
theorem dX8_puts_26 : decode cX8_puts 26 = .ok (.putfield 130, 3) ∧ 26 + 3 = 29 := ⟨by decide +kernel, rfl⟩
theorem dX8_puts_29 : decode cX8_puts 29 = .ok (.return_, 1) := by decide +kernel
def F_X8_puts (S : Hp) (o : Nat) (x1 : Int32) : Option (Hp) :=
  (gR S (some o) 6 11).bind fun v1 =>
  (gI S (some o) 6 13).bind fun v8 =>
  (gI S (some o) 6 30).bind fun v13 =>
  (aP S v1 (((200 : Int32) * v8) + v13) x1).bind fun S18 =>
  (gI S18 (some o) 6 30).bind fun v21 =>
  (pI S18 (some o) 6 30 (v21 + (1 : Int32))).bind fun S26 =>
  some S26
set_option maxRecDepth 100000 in
set_option maxHeartbeats 4000000 in
theorem w_X8_puts {E : Cx} {l : Launch} {res : Hp} {ad : Nat → Nat} {S : Hp} {o : Nat} {x1 : Int32} (K : Kx E cX8_puts RX8 (rmd 0 0 0)) (X : Bx E l yX8_puts 2 none 0 0 ad (QV res)) (h : F_X8_puts S o x1 = some res) : J E 0 0 0 [(0, vR (some o)), (1, vI x1)] [] S ad := by
  refine j_aload_n K dX8_puts_0 rfl 0 rfl ?_
  obtain ⟨v1, e1, h⟩ := bd h
  refine fgX8_31 K dX8_puts_1 e1 ?_
  refine j_sipush (v := (200 : Int32)) K dX8_puts_4 (by decide) ?_
  refine j_aload_n K dX8_puts_7 rfl 0 rfl ?_
  obtain ⟨v8, e8, h⟩ := bd h
  refine fgX8_97 K dX8_puts_8 e8 ?_
  refine j_imul K dX8_puts_11 ?_
  refine j_aload_n K dX8_puts_12 rfl 0 rfl ?_
  obtain ⟨v13, e13, h⟩ := bd h
  refine fgX8_130 K dX8_puts_13 e13 ?_
  refine j_iadd K dX8_puts_16 ?_
  refine j_iload_n K dX8_puts_17 rfl 1 rfl ?_
  obtain ⟨S18, e18, h⟩ := bd h
  refine j_aP K dX8_puts_18 e18 ?_
  refine j_aload_n K dX8_puts_19 rfl 0 rfl ?_
  refine j_dup K dX8_puts_20 rfl ?_
  obtain ⟨v21, e21, h⟩ := bd h
  refine fgX8_130 K dX8_puts_21 e21 ?_
  refine j_iconst (v := (1 : Int32)) K dX8_puts_24 (by decide) ?_
  refine j_iadd K dX8_puts_25 ?_
  obtain ⟨S26, e26, h⟩ := bd h
  refine fpX8_130 K dX8_puts_26 e26 ?_
  exact j_vret K X dX8_puts_29 h
theorem c_X8_puts {l : Launch} {S : Hp} {o : Nat} {x1 : Int32} {res : Hp} (h : F_X8_puts S o x1 = some res) : Ct l yX8_puts cX8_puts 2 none (rmd 0 0 0) 0 0 [vR (some o), vI x1] S (QV res) :=
  z_entry (by decide +kernel) (Nat.le_of_ble_eq_true rfl) (fun E ad K X => w_X8_puts K X h)

theorem dX8_rank_0 : decode cX8_rank 0 = .ok (.iload_n 0, 1) ∧ 0 + 1 = 1 := ⟨by decide +kernel, rfl⟩
theorem dX8_rank_1 : decode cX8_rank 1 = .ok (.ifCond .ne 7, 3) ∧ 1 + 3 = 4 ∧ ((1 : Nat) : Int) + (7) = ((8 : Nat) : Int) := ⟨by decide +kernel, rfl, by decide⟩
theorem dX8_rank_4 : decode cX8_rank 4 = .ok (.iconst 0, 1) ∧ 4 + 1 = 5 := ⟨by decide +kernel, rfl⟩
theorem dX8_rank_5 : decode cX8_rank 5 = .ok (.goto 66, 3) ∧ ((5 : Nat) : Int) + (66) = ((71 : Nat) : Int) := ⟨by decide +kernel, by decide⟩
theorem dX8_rank_8 : decode cX8_rank 8 = .ok (.iload_n 0, 1) ∧ 8 + 1 = 9 := ⟨by decide +kernel, rfl⟩
theorem dX8_rank_9 : decode cX8_rank 9 = .ok (.bipush 11, 2) ∧ 9 + 2 = 11 := ⟨by decide +kernel, rfl⟩
theorem dX8_rank_11 : decode cX8_rank 11 = .ok (.if_icmp .ne 7, 3) ∧ 11 + 3 = 14 ∧ ((11 : Nat) : Int) + (7) = ((18 : Nat) : Int) := ⟨by decide +kernel, rfl, by decide⟩
theorem dX8_rank_14 : decode cX8_rank 14 = .ok (.iconst 1, 1) ∧ 14 + 1 = 15 := ⟨by decide +kernel, rfl⟩
theorem dX8_rank_15 : decode cX8_rank 15 = .ok (.goto 56, 3) ∧ ((15 : Nat) : Int) + (56) = ((71 : Nat) : Int) := ⟨by decide +kernel, by decide⟩
theorem dX8_rank_18 : decode cX8_rank 18 = .ok (.iload_n 0, 1) ∧ 18 + 1 = 19 := ⟨by decide +kernel, rfl⟩
theorem dX8_rank_19 : decode cX8_rank 19 = .ok (.bipush 12, 2) ∧ 19 + 2 = 21 := ⟨by decide +kernel, rfl⟩
theorem dX8_rank_21 : decode cX8_rank 21 = .ok (.if_icmp .ne 7, 3) ∧ 21 + 3 = 24 ∧ ((21 : Nat) : Int) + (7) = ((28 : Nat) : Int) := ⟨by decide +kernel, rfl, by decide⟩
theorem dX8_rank_24 : decode cX8_rank 24 = .ok (.iconst 2, 1) ∧ 24 + 1 = 25 := ⟨by decide +kernel, rfl⟩
theorem dX8_rank_25 : decode cX8_rank 25 = .ok (.goto 46, 3) ∧ ((25 : Nat) : Int) + (46) = ((71 : Nat) : Int) := ⟨by decide +kernel, by decide⟩
theorem dX8_rank_28 : decode cX8_rank 28 = .ok (.iload_n 0, 1) ∧ 28 + 1 = 29 := ⟨by decide +kernel, rfl⟩
theorem dX8_rank_29 : decode cX8_rank 29 = .ok (.bipush 13, 2) ∧ 29 + 2 = 31 := ⟨by decide +kernel, rfl⟩
theorem dX8_rank_31 : decode cX8_rank 31 = .ok (.if_icmp .ne 7, 3) ∧ 31 + 3 = 34 ∧ ((31 : Nat) : Int) + (7) = ((38 : Nat) : Int) := ⟨by decide +kernel, rfl, by decide⟩
theorem dX8_rank_34 : decode cX8_rank 34 = .ok (.iconst 3, 1) ∧ 34 + 1 = 35 := ⟨by decide +kernel, rfl⟩
theorem dX8_rank_35 : decode cX8_rank 35 = .ok (.goto 36, 3) ∧ ((35 : Nat) : Int) + (36) = ((71 : Nat) : Int) := ⟨by decide +kernel, by decide⟩
theorem dX8_rank_38 : decode cX8_rank 38 = .ok (.iload_n 0, 1) ∧ 38 + 1 = 39 := ⟨by decide +kernel, rfl⟩
theorem dX8_rank_39 : decode cX8_rank 39 = .ok (.bipush 15, 2) ∧ 39 + 2 = 41 := ⟨by decide +kernel, rfl⟩
theorem dX8_rank_41 : decode cX8_rank 41 = .ok (.if_icmp .gt 7, 3) ∧ 41 + 3 = 44 ∧ ((41 : Nat) : Int) + (7) = ((48 : Nat) : Int) := ⟨by decide +kernel, rfl, by decide⟩
theorem dX8_rank_44 : decode cX8_rank 44 = .ok (.iconst 4, 1) ∧ 44 + 1 = 45 := ⟨by decide +kernel, rfl⟩
theorem dX8_rank_45 : decode cX8_rank 45 = .ok (.goto 26, 3) ∧ ((45 : Nat) : Int) + (26) = ((71 : Nat) : Int) := ⟨by decide +kernel, by decide⟩
theorem dX8_rank_48 : decode cX8_rank 48 = .ok (.iload_n 0, 1) ∧ 48 + 1 = 49 := ⟨by decide +kernel, rfl⟩
theorem dX8_rank_49 : decode cX8_rank 49 = .ok (.bipush 17, 2) ∧ 49 + 2 = 51 := ⟨by decide +kernel, rfl⟩
theorem dX8_rank_51 : decode cX8_rank 51 = .ok (.if_icmp .gt 7, 3) ∧ 51 + 3 = 54 ∧ ((51 : Nat) : Int) + (7) = ((58 : Nat) : Int) := ⟨by decide +kernel, rfl, by decide⟩
theorem dX8_rank_54 : decode cX8_rank 54 = .ok (.iconst 5, 1) ∧ 54 + 1 = 55 := ⟨by decide +kernel, rfl⟩
theorem dX8_rank_55 : decode cX8_rank 55 = .ok (.goto 16, 3) ∧ ((55 : Nat) : Int) + (16) = ((71 : Nat) : Int) := ⟨by decide +kernel, by decide⟩
theorem dX8_rank_58 : decode cX8_rank 58 = .ok (.iload_n 0, 1) ∧ 58 + 1 = 59 := ⟨by decide +kernel, rfl⟩
theorem dX8_rank_59 : decode cX8_rank 59 = .ok (.bipush 18, 2) ∧ 59 + 2 = 61 := ⟨by decide +kernel, rfl⟩
theorem dX8_rank_61 : decode cX8_rank 61 = .ok (.if_icmp .ne 8, 3) ∧ 61 + 3 = 64 ∧ ((61 : Nat) : Int) + (8) = ((69 : Nat) : Int) := ⟨by decide +kernel, rfl, by decide⟩
theorem dX8_rank_64 : decode cX8_rank 64 = .ok (.bipush 6, 2) ∧ 64 + 2 = 66 := ⟨by decide +kernel, rfl⟩
theorem dX8_rank_66 : decode cX8_rank 66 = .ok (.goto 5, 3) ∧ ((66 : Nat) : Int) + (5) = ((71 : Nat) : Int) := ⟨by decide +kernel, by decide⟩
theorem dX8_rank_69 : decode cX8_rank 69 = .ok (.bipush 7, 2) ∧ 69 + 2 = 71 := ⟨by decide +kernel, rfl⟩
theorem dX8_rank_71 : decode cX8_rank 71 = .ok (.ireturn, 1) := by decide +kernel
def B_X8_rank_71 (S : Hp) (s0 : Int32) : Option (Int32 × Hp) :=
  some (s0, S)
set_option maxRecDepth 100000 in
set_option maxHeartbeats 4000000 in
theorem w_X8_rank_71 {E : Cx} {l : Launch} {res : Int32 × Hp} {ad : Nat → Nat} {S : Hp} {s0 : Int32} (K : Kx E cX8_rank RX8 (rmd 0 0 0)) (X : Bx E l yX8_rank 1 (some .int) 0 0 ad (QI res)) (h : B_X8_rank_71 S s0 = some res) : J E 0 0 71 [] [vI s0] S ad := by
  exact j_iret K X dX8_rank_71 h
def F_X8_rank (S : Hp) (x0 : Int32) : Option (Int32 × Hp) :=
  if x0 = 0 then
    B_X8_rank_71 S (0 : Int32)
  else
    if x0 = (11 : Int32) then
      B_X8_rank_71 S (1 : Int32)
    else
      if x0 = (12 : Int32) then
        B_X8_rank_71 S (2 : Int32)
      else
        if x0 = (13 : Int32) then
          B_X8_rank_71 S (3 : Int32)
        else
          if (15 : Int32) < x0 then
            if (17 : Int32) < x0 then
              if x0 = (18 : Int32) then
                B_X8_rank_71 S (6 : Int32)
              else
                B_X8_rank_71 S (7 : Int32)
            else
              B_X8_rank_71 S (5 : Int32)
          else
            B_X8_rank_71 S (4 : Int32)
set_option maxRecDepth 100000 in
set_option maxHeartbeats 4000000 in
theorem w_X8_rank {E : Cx} {l : Launch} {res : Int32 × Hp} {ad : Nat → Nat} {S : Hp} {x0 : Int32} (K : Kx E cX8_rank RX8 (rmd 0 0 0)) (X : Bx E l yX8_rank 1 (some .int) 0 0 ad (QI res)) (h : F_X8_rank S x0 = some res) : J E 0 0 0 [(0, vI x0)] [] S ad := by
  refine j_iload_n K dX8_rank_0 rfl 0 rfl ?_
  refine j_if_ne K dX8_rank_1 (fun c1 => ?_) (fun c1 => ?_)
  · replace h := ie c1 h
    refine j_iload_n K dX8_rank_8 rfl 0 rfl ?_
    refine j_bipush (v := (11 : Int32)) K dX8_rank_9 (by decide) ?_
    refine j_icmp_ne K dX8_rank_11 (fun c11 => ?_) (fun c11 => ?_)
    · replace h := ie c11 h
      refine j_iload_n K dX8_rank_18 rfl 0 rfl ?_
      refine j_bipush (v := (12 : Int32)) K dX8_rank_19 (by decide) ?_
      refine j_icmp_ne K dX8_rank_21 (fun c21 => ?_) (fun c21 => ?_)
      · replace h := ie c21 h
        refine j_iload_n K dX8_rank_28 rfl 0 rfl ?_
        refine j_bipush (v := (13 : Int32)) K dX8_rank_29 (by decide) ?_
        refine j_icmp_ne K dX8_rank_31 (fun c31 => ?_) (fun c31 => ?_)
        · replace h := ie c31 h
          refine j_iload_n K dX8_rank_38 rfl 0 rfl ?_
          refine j_bipush (v := (15 : Int32)) K dX8_rank_39 (by decide) ?_
          refine j_icmp_gt K dX8_rank_41 (fun c41 => ?_) (fun c41 => ?_)
          · replace h := it c41 h
            refine j_iload_n K dX8_rank_48 rfl 0 rfl ?_
            refine j_bipush (v := (17 : Int32)) K dX8_rank_49 (by decide) ?_
            refine j_icmp_gt K dX8_rank_51 (fun c51 => ?_) (fun c51 => ?_)
            · replace h := it c51 h
              refine j_iload_n K dX8_rank_58 rfl 0 rfl ?_
              refine j_bipush (v := (18 : Int32)) K dX8_rank_59 (by decide) ?_
              refine j_icmp_ne K dX8_rank_61 (fun c61 => ?_) (fun c61 => ?_)
              · replace h := ie c61 h
                refine j_bipush (v := (7 : Int32)) K dX8_rank_69 (by decide) ?_
                exact j_sub [] rfl (w_X8_rank_71 K X h)
              · replace h := it c61 h
                refine j_bipush (v := (6 : Int32)) K dX8_rank_64 (by decide) ?_
                refine j_goto K dX8_rank_66 ?_
                exact j_sub [] rfl (w_X8_rank_71 K X h)
            · replace h := ie c51 h
              refine j_iconst (v := (5 : Int32)) K dX8_rank_54 (by decide) ?_
              refine j_goto K dX8_rank_55 ?_
              exact j_sub [] rfl (w_X8_rank_71 K X h)
          · replace h := ie c41 h
            refine j_iconst (v := (4 : Int32)) K dX8_rank_44 (by decide) ?_
            refine j_goto K dX8_rank_45 ?_
            exact j_sub [] rfl (w_X8_rank_71 K X h)
        · replace h := it c31 h
          refine j_iconst (v := (3 : Int32)) K dX8_rank_34 (by decide) ?_
          refine j_goto K dX8_rank_35 ?_
          exact j_sub [] rfl (w_X8_rank_71 K X h)
      · replace h := it c21 h
        refine j_iconst (v := (2 : Int32)) K dX8_rank_24 (by decide) ?_
        refine j_goto K dX8_rank_25 ?_
        exact j_sub [] rfl (w_X8_rank_71 K X h)
    · replace h := it c11 h
      refine j_iconst (v := (1 : Int32)) K dX8_rank_14 (by decide) ?_
      refine j_goto K dX8_rank_15 ?_
      exact j_sub [] rfl (w_X8_rank_71 K X h)
  · replace h := it c1 h
    refine j_iconst (v := (0 : Int32)) K dX8_rank_4 (by decide) ?_
    refine j_goto K dX8_rank_5 ?_
    exact j_sub [] rfl (w_X8_rank_71 K X h)
theorem c_X8_rank {l : Launch} {S : Hp} {x0 : Int32} {res : Int32 × Hp} (h : F_X8_rank S x0 = some res) : Ct l yX8_rank cX8_rank 1 (some .int) (rmd 0 0 0) 0 0 [vI x0] S (QI res) :=
  z_entry (by decide +kernel) (Nat.le_of_ble_eq_true rfl) (fun E ad K X => w_X8_rank K X h)

theorem dX8_unwinds_0 : decode cX8_unwinds 0 = .ok (.aload_n 0, 1) ∧ 0 + 1 = 1 := ⟨by decide +kernel, rfl⟩
theorem dX8_unwinds_1 : decode cX8_unwinds 1 = .ok (.getfield 133, 3) ∧ 1 + 3 = 4 := ⟨by decide +kernel, rfl⟩
theorem dX8_unwinds_4 : decode cX8_unwinds 4 = .ok (.ifCond .le 75, 3) ∧ 4 + 3 = 7 ∧ ((4 : Nat) : Int) + (75) = ((79 : Nat) : Int) := ⟨by decide +kernel, rfl, by decide⟩
theorem dX8_unwinds_7 : decode cX8_unwinds 7 = .ok (.aload_n 0, 1) ∧ 7 + 1 = 8 := ⟨by decide +kernel, rfl⟩
theorem dX8_unwinds_8 : decode cX8_unwinds 8 = .ok (.getfield 58, 3) ∧ 8 + 3 = 11 := ⟨by decide +kernel, rfl⟩
theorem dX8_unwinds_11 : decode cX8_unwinds 11 = .ok (.aload_n 0, 1) ∧ 11 + 1 = 12 := ⟨by decide +kernel, rfl⟩
theorem dX8_unwinds_12 : decode cX8_unwinds 12 = .ok (.getfield 133, 3) ∧ 12 + 3 = 15 := ⟨by decide +kernel, rfl⟩
theorem dX8_unwinds_15 : decode cX8_unwinds 15 = .ok (.iconst 1, 1) ∧ 15 + 1 = 16 := ⟨by decide +kernel, rfl⟩
theorem dX8_unwinds_16 : decode cX8_unwinds 16 = .ok (.isub, 1) ∧ 16 + 1 = 17 := ⟨by decide +kernel, rfl⟩
theorem dX8_unwinds_17 : decode cX8_unwinds 17 = .ok (.iaload, 1) ∧ 17 + 1 = 18 := ⟨by decide +kernel, rfl⟩
theorem dX8_unwinds_18 : decode cX8_unwinds 18 = .ok (.invokestatic 136, 3) := by decide +kernel
theorem dX8_unwinds_21 : decode cX8_unwinds 21 = .ok (.iload_n 1, 1) ∧ 21 + 1 = 22 := ⟨by decide +kernel, rfl⟩
theorem dX8_unwinds_22 : decode cX8_unwinds 22 = .ok (.if_icmp .lt 57, 3) ∧ 22 + 3 = 25 ∧ ((22 : Nat) : Int) + (57) = ((79 : Nat) : Int) := ⟨by decide +kernel, rfl, by decide⟩
theorem dX8_unwinds_25 : decode cX8_unwinds 25 = .ok (.aload_n 0, 1) ∧ 25 + 1 = 26 := ⟨by decide +kernel, rfl⟩
theorem dX8_unwinds_26 : decode cX8_unwinds 26 = .ok (.dup, 1) ∧ 26 + 1 = 27 := ⟨by decide +kernel, rfl⟩
theorem dX8_unwinds_27 : decode cX8_unwinds 27 = .ok (.getfield 133, 3) ∧ 27 + 3 = 30 := ⟨by decide +kernel, rfl⟩
theorem dX8_unwinds_30 : decode cX8_unwinds 30 = .ok (.iconst 1, 1) ∧ 30 + 1 = 31 := ⟨by decide +kernel, rfl⟩
theorem dX8_unwinds_31 : decode cX8_unwinds 31 = .ok (.isub, 1) ∧ 31 + 1 = 32 := ⟨by decide +kernel, rfl⟩
theorem dX8_unwinds_32 : decode cX8_unwinds 32 = .ok (.putfield 133, 3) ∧ 32 + 3 = 35 := ⟨by decide +kernel, rfl⟩
theorem dX8_unwinds_35 : decode cX8_unwinds 35 = .ok (.aload_n 0, 1) ∧ 35 + 1 = 36 := ⟨by decide +kernel, rfl⟩
theorem dX8_unwinds_36 : decode cX8_unwinds 36 = .ok (.getfield 58, 3) ∧ 36 + 3 = 39 := ⟨by decide +kernel, rfl⟩
theorem dX8_unwinds_39 : decode cX8_unwinds 39 = .ok (.aload_n 0, 1) ∧ 39 + 1 = 40 := ⟨by decide +kernel, rfl⟩
theorem dX8_unwinds_40 : decode cX8_unwinds 40 = .ok (.getfield 133, 3) ∧ 40 + 3 = 43 := ⟨by decide +kernel, rfl⟩
theorem dX8_unwinds_43 : decode cX8_unwinds 43 = .ok (.iaload, 1) ∧ 43 + 1 = 44 := ⟨by decide +kernel, rfl⟩
theorem dX8_unwinds_44 : decode cX8_unwinds 44 = .ok (.istore_n 2, 1) ∧ 44 + 1 = 45 := ⟨by decide +kernel, rfl⟩
theorem dX8_unwinds_45 : decode cX8_unwinds 45 = .ok (.aload_n 0, 1) ∧ 45 + 1 = 46 := ⟨by decide +kernel, rfl⟩
theorem dX8_unwinds_46 : decode cX8_unwinds 46 = .ok (.dup, 1) ∧ 46 + 1 = 47 := ⟨by decide +kernel, rfl⟩
theorem dX8_unwinds_47 : decode cX8_unwinds 47 = .ok (.getfield 140, 3) ∧ 47 + 3 = 50 := ⟨by decide +kernel, rfl⟩
theorem dX8_unwinds_50 : decode cX8_unwinds 50 = .ok (.iload_n 2, 1) ∧ 50 + 1 = 51 := ⟨by decide +kernel, rfl⟩
theorem dX8_unwinds_51 : decode cX8_unwinds 51 = .ok (.bipush 13, 2) ∧ 51 + 2 = 53 := ⟨by decide +kernel, rfl⟩
theorem dX8_unwinds_53 : decode cX8_unwinds 53 = .ok (.if_icmp .eq 9, 3) ∧ 53 + 3 = 56 ∧ ((53 : Nat) : Int) + (9) = ((62 : Nat) : Int) := ⟨by decide +kernel, rfl, by decide⟩
theorem dX8_unwinds_56 : decode cX8_unwinds 56 = .ok (.iload_n 2, 1) ∧ 56 + 1 = 57 := ⟨by decide +kernel, rfl⟩
theorem dX8_unwinds_57 : decode cX8_unwinds 57 = .ok (.bipush 19, 2) ∧ 57 + 2 = 59 := ⟨by decide +kernel, rfl⟩
theorem dX8_unwinds_59 : decode cX8_unwinds 59 = .ok (.if_icmp .ne 7, 3) ∧ 59 + 3 = 62 ∧ ((59 : Nat) : Int) + (7) = ((66 : Nat) : Int) := ⟨by decide +kernel, rfl, by decide⟩
theorem dX8_unwinds_62 : decode cX8_unwinds 62 = .ok (.iconst 1, 1) ∧ 62 + 1 = 63 := ⟨by decide +kernel, rfl⟩
theorem dX8_unwinds_63 : decode cX8_unwinds 63 = .ok (.goto 4, 3) ∧ ((63 : Nat) : Int) + (4) = ((67 : Nat) : Int) := ⟨by decide +kernel, by decide⟩
theorem dX8_unwinds_66 : decode cX8_unwinds 66 = .ok (.iconst 0, 1) ∧ 66 + 1 = 67 := ⟨by decide +kernel, rfl⟩
theorem dX8_unwinds_67 : decode cX8_unwinds 67 = .ok (.isub, 1) ∧ 67 + 1 = 68 := ⟨by decide +kernel, rfl⟩
theorem dX8_unwinds_68 : decode cX8_unwinds 68 = .ok (.putfield 140, 3) ∧ 68 + 3 = 71 := ⟨by decide +kernel, rfl⟩
theorem dX8_unwinds_71 : decode cX8_unwinds 71 = .ok (.aload_n 0, 1) ∧ 71 + 1 = 72 := ⟨by decide +kernel, rfl⟩
theorem dX8_unwinds_72 : decode cX8_unwinds 72 = .ok (.iload_n 2, 1) ∧ 72 + 1 = 73 := ⟨by decide +kernel, rfl⟩
theorem dX8_unwinds_73 : decode cX8_unwinds 73 = .ok (.invokevirtual 143, 3) := by decide +kernel
theorem dX8_unwinds_76 : decode cX8_unwinds 76 = .ok (.goto (-76), 3) ∧ ((76 : Nat) : Int) + (-76) = ((0 : Nat) : Int) := ⟨by decide +kernel, by decide⟩
theorem dX8_unwinds_79 : decode cX8_unwinds 79 = .ok (.return_, 1) := by decide +kernel
def B_X8_unwinds_79 (fu : Nat) (o : Nat) (S : Hp) : Option (Hp) :=
  some S
set_option maxRecDepth 100000 in
set_option maxHeartbeats 4000000 in
theorem w_X8_unwinds_79 {E : Cx} {l : Launch} {res : Hp} {ad : Nat → Nat} {fu : Nat} {o : Nat} {S : Hp} (K : Kx E cX8_unwinds RX8 (rmd 1 0 0)) (X : Bx E l yX8_unwinds 3 none 0 0 ad (QV res)) (h : B_X8_unwinds_79 fu o S = some res) : J E 0 0 79 [] [] S ad := by
  exact j_vret K X dX8_unwinds_79 h
def B_X8_unwinds_67 (k0 : Hp → Option (Hp)) (fu : Nat) (o : Nat) (S : Hp) (x1 : Int32) (x2 : Int32) (s0 : Int32) (s1 : Int32) (s2 : Option Nat) : Option (Hp) :=
  (pI S s2 6 29 (s1 - s0)).bind fun S68 =>
  (ob S68 6 (some o)).bind fun _ =>
  (F_X8_puts S68 o x2).bind fun S73 =>
  k0 S73
set_option maxRecDepth 100000 in
set_option maxHeartbeats 4000000 in
theorem w_X8_unwinds_67 {E : Cx} {l : Launch} {res : Hp} {ad : Nat → Nat} {k0 : Hp → Option (Hp)} {fu : Nat} {o : Nat} {S : Hp} {x1 : Int32} {x2 : Int32} {s0 : Int32} {s1 : Int32} {s2 : Option Nat} (K : Kx E cX8_unwinds RX8 (rmd 1 0 0)) (X : Bx E l yX8_unwinds 3 none 0 0 ad (QV res)) (hk0 : ∀ (S : Hp) , k0 S  = some res → J E 0 0 0 [(0, vR (some o)), (1, vI x1)] [] S ad) (h : B_X8_unwinds_67 k0 fu o S x1 x2 s0 s1 s2 = some res) : J E 0 0 67 [(0, vR (some o)), (1, vI x1), (2, vI x2)] [vI s0, vI s1, vR s2] S ad := by
  refine j_isub K dX8_unwinds_67 ?_
  obtain ⟨S68, e68, h⟩ := bd h
  refine fpX8_140 K dX8_unwinds_68 e68 ?_
  refine j_aload_n K dX8_unwinds_71 rfl 0 rfl ?_
  refine j_iload_n K dX8_unwinds_72 rfl 2 rfl ?_
  obtain ⟨w73, ew73, h⟩ := bd h
  have ho73 := obS ew73
  obtain ⟨S73, e73, h⟩ := bd h
  refine j_cV (st := []) K (r_V (vs := [vI x2]) (n := 1) (o := o) K (c_X8_puts e73) ho73 (by decide) rfl dX8_unwinds_73 z824 z826 zs27 z13 z827 ⟨zd_X8_puts, rfl, rfl, rfl, ⟨Nat.le_of_ble_eq_true rfl, Nat.le_of_ble_eq_true rfl⟩, Nat.le_of_ble_eq_true rfl, Nat.le_of_ble_eq_true rfl, Nat.le_of_ble_eq_true rfl⟩) rfl ?_
  refine j_goto K dX8_unwinds_76 ?_
  exact j_sub [0, 1] rfl (hk0 _ h)
def B_X8_unwinds_62 (k0 : Hp → Option (Hp)) (fu : Nat) (o : Nat) (S : Hp) (x1 : Int32) (x2 : Int32) (s0 : Int32) (s1 : Option Nat) : Option (Hp) :=
  B_X8_unwinds_67 k0 fu o S x1 x2 (1 : Int32) s0 s1
set_option maxRecDepth 100000 in
set_option maxHeartbeats 4000000 in
theorem w_X8_unwinds_62 {E : Cx} {l : Launch} {res : Hp} {ad : Nat → Nat} {k0 : Hp → Option (Hp)} {fu : Nat} {o : Nat} {S : Hp} {x1 : Int32} {x2 : Int32} {s0 : Int32} {s1 : Option Nat} (K : Kx E cX8_unwinds RX8 (rmd 1 0 0)) (X : Bx E l yX8_unwinds 3 none 0 0 ad (QV res)) (hk0 : ∀ (S : Hp) , k0 S  = some res → J E 0 0 0 [(0, vR (some o)), (1, vI x1)] [] S ad) (h : B_X8_unwinds_62 k0 fu o S x1 x2 s0 s1 = some res) : J E 0 0 62 [(0, vR (some o)), (1, vI x1), (2, vI x2)] [vI s0, vR s1] S ad := by
  refine j_iconst (v := (1 : Int32)) K dX8_unwinds_62 (by decide) ?_
  refine j_goto K dX8_unwinds_63 ?_
  exact w_X8_unwinds_67 K X hk0 h
def L_X8_unwinds_0 (k0 : Hp → Option (Hp)) (fu : Nat) (o : Nat) (x1 : Int32) (S : Hp) : Option (Hp) :=
  (gI S (some o) 6 28).bind fun v1 =>
  if v1 ≤ 0 then
    B_X8_unwinds_79 fu o S
  else
    (gR S (some o) 6 27).bind fun v8 =>
    (gI S (some o) 6 28).bind fun v12 =>
    (aG S v8 (v12 - (1 : Int32))).bind fun v17 =>
    b2 (F_X8_rank S v17) fun v18 S18 =>
    if v18 < x1 then
      B_X8_unwinds_79 fu o S18
    else
      (gI S18 (some o) 6 28).bind fun v27 =>
      (pI S18 (some o) 6 28 (v27 - (1 : Int32))).bind fun S32 =>
      (gR S32 (some o) 6 27).bind fun v36 =>
      (gI S32 (some o) 6 28).bind fun v40 =>
      (aG S32 v36 v40).bind fun v43 =>
      (gI S32 (some o) 6 29).bind fun v47 =>
      if v43 = (13 : Int32) then
        B_X8_unwinds_62 k0 fu o S32 x1 v43 v47 (some o)
      else
        if v43 = (19 : Int32) then
          B_X8_unwinds_62 k0 fu o S32 x1 v43 v47 (some o)
        else
          B_X8_unwinds_67 k0 fu o S32 x1 v43 (0 : Int32) v47 (some o)
set_option maxRecDepth 100000 in
set_option maxHeartbeats 4000000 in
theorem wl_X8_unwinds_0 {E : Cx} {l : Launch} {res : Hp} {ad : Nat → Nat} {k0 : Hp → Option (Hp)} {fu : Nat} {o : Nat} {S : Hp} {x1 : Int32} (K : Kx E cX8_unwinds RX8 (rmd 1 0 0)) (X : Bx E l yX8_unwinds 3 none 0 0 ad (QV res)) (hk0 : ∀ (S : Hp) , k0 S  = some res → J E 0 0 0 [(0, vR (some o)), (1, vI x1)] [] S ad) (h : L_X8_unwinds_0 k0 fu o x1 S = some res) : J E 0 0 0 [(0, vR (some o)), (1, vI x1)] [] S ad := by
  refine j_aload_n K dX8_unwinds_0 rfl 0 rfl ?_
  obtain ⟨v1, e1, h⟩ := bd h
  refine fgX8_133 K dX8_unwinds_1 e1 ?_
  refine j_if_le K dX8_unwinds_4 (fun c4 => ?_) (fun c4 => ?_)
  · replace h := it c4 h
    exact j_sub [] rfl (w_X8_unwinds_79 K X h)
  · replace h := ie c4 h
    refine j_aload_n K dX8_unwinds_7 rfl 0 rfl ?_
    obtain ⟨v8, e8, h⟩ := bd h
    refine fgX8_58 K dX8_unwinds_8 e8 ?_
    refine j_aload_n K dX8_unwinds_11 rfl 0 rfl ?_
    obtain ⟨v12, e12, h⟩ := bd h
    refine fgX8_133 K dX8_unwinds_12 e12 ?_
    refine j_iconst (v := (1 : Int32)) K dX8_unwinds_15 (by decide) ?_
    refine j_isub K dX8_unwinds_16 ?_
    obtain ⟨v17, e17, h⟩ := bd h
    refine j_aG K dX8_unwinds_17 e17 ?_
    obtain ⟨v18, S18, e18, h⟩ := bd2 h
    refine j_cI (st := []) K (r_S (vs := [vI v17]) (n := 1) K (c_X8_rank e18) dX8_unwinds_18 z832 z833 z13 z834 ⟨zd_X8_rank, rfl, rfl, rfl, ⟨Nat.le_of_ble_eq_true rfl, Nat.le_of_ble_eq_true rfl⟩, Nat.le_of_ble_eq_true rfl, Nat.le_of_ble_eq_true rfl, Nat.le_of_ble_eq_true rfl⟩) rfl ?_
    refine j_iload_n K dX8_unwinds_21 rfl 1 rfl ?_
    refine j_icmp_lt K dX8_unwinds_22 (fun c22 => ?_) (fun c22 => ?_)
    · replace h := it c22 h
      exact j_sub [] rfl (w_X8_unwinds_79 K X h)
    · replace h := ie c22 h
      refine j_aload_n K dX8_unwinds_25 rfl 0 rfl ?_
      refine j_dup K dX8_unwinds_26 rfl ?_
      obtain ⟨v27, e27, h⟩ := bd h
      refine fgX8_133 K dX8_unwinds_27 e27 ?_
      refine j_iconst (v := (1 : Int32)) K dX8_unwinds_30 (by decide) ?_
      refine j_isub K dX8_unwinds_31 ?_
      obtain ⟨S32, e32, h⟩ := bd h
      refine fpX8_133 K dX8_unwinds_32 e32 ?_
      refine j_aload_n K dX8_unwinds_35 rfl 0 rfl ?_
      obtain ⟨v36, e36, h⟩ := bd h
      refine fgX8_58 K dX8_unwinds_36 e36 ?_
      refine j_aload_n K dX8_unwinds_39 rfl 0 rfl ?_
      obtain ⟨v40, e40, h⟩ := bd h
      refine fgX8_133 K dX8_unwinds_40 e40 ?_
      obtain ⟨v43, e43, h⟩ := bd h
      refine j_aG K dX8_unwinds_43 e43 ?_
      refine j_istore_n (lv' := [(2, vI v43), (0, vR (some o)), (1, vI x1)]) K dX8_unwinds_44 rfl X.2.2.1 (by decide) rfl ?_
      refine j_aload_n K dX8_unwinds_45 rfl 1 rfl ?_
      refine j_dup K dX8_unwinds_46 rfl ?_
      obtain ⟨v47, e47, h⟩ := bd h
      refine fgX8_140 K dX8_unwinds_47 e47 ?_
      refine j_iload_n K dX8_unwinds_50 rfl 0 rfl ?_
      refine j_bipush (v := (13 : Int32)) K dX8_unwinds_51 (by decide) ?_
      refine j_icmp_eq K dX8_unwinds_53 (fun c53 => ?_) (fun c53 => ?_)
      · replace h := it c53 h
        exact j_sub [1, 2, 0] rfl (w_X8_unwinds_62 K X hk0 h)
      · replace h := ie c53 h
        refine j_iload_n K dX8_unwinds_56 rfl 0 rfl ?_
        refine j_bipush (v := (19 : Int32)) K dX8_unwinds_57 (by decide) ?_
        refine j_icmp_ne K dX8_unwinds_59 (fun c59 => ?_) (fun c59 => ?_)
        · replace h := ie c59 h
          refine j_iconst (v := (0 : Int32)) K dX8_unwinds_66 (by decide) ?_
          exact j_sub [1, 2, 0] rfl (w_X8_unwinds_67 K X hk0 h)
        · replace h := it c59 h
          exact j_sub [1, 2, 0] rfl (w_X8_unwinds_62 K X hk0 h)
def B_X8_unwinds_0 (fu : Nat) (o : Nat) (x1 : Int32) : Nat → Hp → Option (Hp)
  | 0 => fun _ => none
  | n + 1 => L_X8_unwinds_0 (B_X8_unwinds_0 fu o x1 n) fu o x1
theorem w_X8_unwinds_0 {E : Cx} {l : Launch} {res : Hp} {ad : Nat → Nat} {fu : Nat} {o : Nat} {x1 : Int32} (K : Kx E cX8_unwinds RX8 (rmd 1 0 0)) (X : Bx E l yX8_unwinds 3 none 0 0 ad (QV res)) : ∀ (n : Nat) (S : Hp), B_X8_unwinds_0 fu o x1 n S = some res → J E 0 0 0 [(0, vR (some o)), (1, vI x1)] [] S ad := by
  intro n
  induction n with
  | zero =>
    intro S  h
    cases h
  | succ n ih =>
    intro S  h
    exact wl_X8_unwinds_0 K X ih h
def F_X8_unwinds (fu : Nat) (S : Hp) (o : Nat) (x1 : Int32) : Option (Hp) :=
  B_X8_unwinds_0 fu o x1 fu S
set_option maxRecDepth 100000 in
set_option maxHeartbeats 4000000 in
theorem w_X8_unwinds {E : Cx} {l : Launch} {res : Hp} {ad : Nat → Nat} {fu : Nat} {S : Hp} {o : Nat} {x1 : Int32} (K : Kx E cX8_unwinds RX8 (rmd 1 0 0)) (X : Bx E l yX8_unwinds 3 none 0 0 ad (QV res)) (h : F_X8_unwinds fu S o x1 = some res) : J E 0 0 0 [(0, vR (some o)), (1, vI x1)] [] S ad := by
  exact w_X8_unwinds_0 K X _ _ h
theorem c_X8_unwinds {l : Launch} {fu : Nat} {S : Hp} {o : Nat} {x1 : Int32} {res : Hp} (h : F_X8_unwinds fu S o x1 = some res) : Ct l yX8_unwinds cX8_unwinds 3 none (rmd 1 0 0) 0 0 [vR (some o), vI x1] S (QV res) :=
  z_entry (by decide +kernel) (Nat.le_of_ble_eq_true rfl) (fun E ad K X => w_X8_unwinds K X h)

theorem dX8_holds_0 : decode cX8_holds 0 = .ok (.aload_n 0, 1) ∧ 0 + 1 = 1 := ⟨by decide +kernel, rfl⟩
theorem dX8_holds_1 : decode cX8_holds 1 = .ok (.getfield 58, 3) ∧ 1 + 3 = 4 := ⟨by decide +kernel, rfl⟩
theorem dX8_holds_4 : decode cX8_holds 4 = .ok (.aload_n 0, 1) ∧ 4 + 1 = 5 := ⟨by decide +kernel, rfl⟩
theorem dX8_holds_5 : decode cX8_holds 5 = .ok (.getfield 133, 3) ∧ 5 + 3 = 8 := ⟨by decide +kernel, rfl⟩
theorem dX8_holds_8 : decode cX8_holds 8 = .ok (.iload_n 1, 1) ∧ 8 + 1 = 9 := ⟨by decide +kernel, rfl⟩
theorem dX8_holds_9 : decode cX8_holds 9 = .ok (.iastore, 1) ∧ 9 + 1 = 10 := ⟨by decide +kernel, rfl⟩
theorem dX8_holds_10 : decode cX8_holds 10 = .ok (.aload_n 0, 1) ∧ 10 + 1 = 11 := ⟨by decide +kernel, rfl⟩
theorem dX8_holds_11 : decode cX8_holds 11 = .ok (.dup, 1) ∧ 11 + 1 = 12 := ⟨by decide +kernel, rfl⟩
theorem dX8_holds_12 : decode cX8_holds 12 = .ok (.getfield 133, 3) ∧ 12 + 3 = 15 := ⟨by decide +kernel, rfl⟩
theorem dX8_holds_15 : decode cX8_holds 15 = .ok (.iconst 1, 1) ∧ 15 + 1 = 16 := ⟨by decide +kernel, rfl⟩
theorem dX8_holds_16 : decode cX8_holds 16 = .ok (.iadd, 1) ∧ 16 + 1 = 17 := ⟨by decide +kernel, rfl⟩
theorem dX8_holds_17 : decode cX8_holds 17 = .ok (.putfield 133, 3) ∧ 17 + 3 = 20 := ⟨by decide +kernel, rfl⟩
theorem dX8_holds_20 : decode cX8_holds 20 = .ok (.return_, 1) := by decide +kernel
def F_X8_holds (S : Hp) (o : Nat) (x1 : Int32) : Option (Hp) :=
  (gR S (some o) 6 27).bind fun v1 =>
  (gI S (some o) 6 28).bind fun v5 =>
  (aP S v1 v5 x1).bind fun S9 =>
  (gI S9 (some o) 6 28).bind fun v12 =>
  (pI S9 (some o) 6 28 (v12 + (1 : Int32))).bind fun S17 =>
  some S17
set_option maxRecDepth 100000 in
set_option maxHeartbeats 4000000 in
theorem w_X8_holds {E : Cx} {l : Launch} {res : Hp} {ad : Nat → Nat} {S : Hp} {o : Nat} {x1 : Int32} (K : Kx E cX8_holds RX8 (rmd 0 0 0)) (X : Bx E l yX8_holds 2 none 0 0 ad (QV res)) (h : F_X8_holds S o x1 = some res) : J E 0 0 0 [(0, vR (some o)), (1, vI x1)] [] S ad := by
  refine j_aload_n K dX8_holds_0 rfl 0 rfl ?_
  obtain ⟨v1, e1, h⟩ := bd h
  refine fgX8_58 K dX8_holds_1 e1 ?_
  refine j_aload_n K dX8_holds_4 rfl 0 rfl ?_
  obtain ⟨v5, e5, h⟩ := bd h
  refine fgX8_133 K dX8_holds_5 e5 ?_
  refine j_iload_n K dX8_holds_8 rfl 1 rfl ?_
  obtain ⟨S9, e9, h⟩ := bd h
  refine j_aP K dX8_holds_9 e9 ?_
  refine j_aload_n K dX8_holds_10 rfl 0 rfl ?_
  refine j_dup K dX8_holds_11 rfl ?_
  obtain ⟨v12, e12, h⟩ := bd h
  refine fgX8_133 K dX8_holds_12 e12 ?_
  refine j_iconst (v := (1 : Int32)) K dX8_holds_15 (by decide) ?_
  refine j_iadd K dX8_holds_16 ?_
  obtain ⟨S17, e17, h⟩ := bd h
  refine fpX8_133 K dX8_holds_17 e17 ?_
  exact j_vret K X dX8_holds_20 h
theorem c_X8_holds {l : Launch} {S : Hp} {o : Nat} {x1 : Int32} {res : Hp} (h : F_X8_holds S o x1 = some res) : Ct l yX8_holds cX8_holds 2 none (rmd 0 0 0) 0 0 [vR (some o), vI x1] S (QV res) :=
  z_entry (by decide +kernel) (Nat.le_of_ble_eq_true rfl) (fun E ad K X => w_X8_holds K X h)

theorem dX8_opensOne_0 : decode cX8_opensOne 0 = .ok (.aload_n 0, 1) ∧ 0 + 1 = 1 := ⟨by decide +kernel, rfl⟩
theorem dX8_opensOne_1 : decode cX8_opensOne 1 = .ok (.getfield 140, 3) ∧ 1 + 3 = 4 := ⟨by decide +kernel, rfl⟩
theorem dX8_opensOne_4 : decode cX8_opensOne 4 = .ok (.iconst 5, 1) ∧ 4 + 1 = 5 := ⟨by decide +kernel, rfl⟩
theorem dX8_opensOne_5 : decode cX8_opensOne 5 = .ok (.if_icmp .ne 5, 3) ∧ 5 + 3 = 8 ∧ ((5 : Nat) : Int) + (5) = ((10 : Nat) : Int) := ⟨by decide +kernel, rfl, by decide⟩
theorem dX8_opensOne_8 : decode cX8_opensOne 8 = .ok (.iconst 0, 1) ∧ 8 + 1 = 9 := ⟨by decide +kernel, rfl⟩
theorem dX8_opensOne_9 : decode cX8_opensOne 9 = .ok (.ireturn, 1) := by decide +kernel
theorem dX8_opensOne_10 : decode cX8_opensOne 10 = .ok (.aload_n 0, 1) ∧ 10 + 1 = 11 := ⟨by decide +kernel, rfl⟩
theorem dX8_opensOne_11 : decode cX8_opensOne 11 = .ok (.dup, 1) ∧ 11 + 1 = 12 := ⟨by decide +kernel, rfl⟩
theorem dX8_opensOne_12 : decode cX8_opensOne 12 = .ok (.getfield 140, 3) ∧ 12 + 3 = 15 := ⟨by decide +kernel, rfl⟩
theorem dX8_opensOne_15 : decode cX8_opensOne 15 = .ok (.iconst 1, 1) ∧ 15 + 1 = 16 := ⟨by decide +kernel, rfl⟩
theorem dX8_opensOne_16 : decode cX8_opensOne 16 = .ok (.iadd, 1) ∧ 16 + 1 = 17 := ⟨by decide +kernel, rfl⟩
theorem dX8_opensOne_17 : decode cX8_opensOne 17 = .ok (.putfield 140, 3) ∧ 17 + 3 = 20 := ⟨by decide +kernel, rfl⟩
theorem dX8_opensOne_20 : decode cX8_opensOne 20 = .ok (.aload_n 0, 1) ∧ 20 + 1 = 21 := ⟨by decide +kernel, rfl⟩
theorem dX8_opensOne_21 : decode cX8_opensOne 21 = .ok (.iload_n 1, 1) ∧ 21 + 1 = 22 := ⟨by decide +kernel, rfl⟩
theorem dX8_opensOne_22 : decode cX8_opensOne 22 = .ok (.invokevirtual 146, 3) := by decide +kernel
theorem dX8_opensOne_25 : decode cX8_opensOne 25 = .ok (.iconst 1, 1) ∧ 25 + 1 = 26 := ⟨by decide +kernel, rfl⟩
theorem dX8_opensOne_26 : decode cX8_opensOne 26 = .ok (.ireturn, 1) := by decide +kernel
def F_X8_opensOne (S : Hp) (o : Nat) (x1 : Int32) : Option (Int32 × Hp) :=
  (gI S (some o) 6 29).bind fun v1 =>
  if v1 = (5 : Int32) then
    zb (0 : Int32) S
  else
    (gI S (some o) 6 29).bind fun v12 =>
    (pI S (some o) 6 29 (v12 + (1 : Int32))).bind fun S17 =>
    (ob S17 6 (some o)).bind fun _ =>
    (F_X8_holds S17 o x1).bind fun S22 =>
    zb (1 : Int32) S22
set_option maxRecDepth 100000 in
set_option maxHeartbeats 4000000 in
theorem w_X8_opensOne {E : Cx} {l : Launch} {res : Int32 × Hp} {ad : Nat → Nat} {S : Hp} {o : Nat} {x1 : Int32} (K : Kx E cX8_opensOne RX8 (rmd 1 0 0)) (X : Bx E l yX8_opensOne 2 (some .boolean) 0 0 ad (QI res)) (h : F_X8_opensOne S o x1 = some res) : J E 0 0 0 [(0, vR (some o)), (1, vI x1)] [] S ad := by
  refine j_aload_n K dX8_opensOne_0 rfl 0 rfl ?_
  obtain ⟨v1, e1, h⟩ := bd h
  refine fgX8_140 K dX8_opensOne_1 e1 ?_
  refine j_iconst (v := (5 : Int32)) K dX8_opensOne_4 (by decide) ?_
  refine j_icmp_ne K dX8_opensOne_5 (fun c5 => ?_) (fun c5 => ?_)
  · replace h := ie c5 h
    refine j_aload_n K dX8_opensOne_10 rfl 0 rfl ?_
    refine j_dup K dX8_opensOne_11 rfl ?_
    obtain ⟨v12, e12, h⟩ := bd h
    refine fgX8_140 K dX8_opensOne_12 e12 ?_
    refine j_iconst (v := (1 : Int32)) K dX8_opensOne_15 (by decide) ?_
    refine j_iadd K dX8_opensOne_16 ?_
    obtain ⟨S17, e17, h⟩ := bd h
    refine fpX8_140 K dX8_opensOne_17 e17 ?_
    refine j_aload_n K dX8_opensOne_20 rfl 0 rfl ?_
    refine j_iload_n K dX8_opensOne_21 rfl 1 rfl ?_
    obtain ⟨w22, ew22, h⟩ := bd h
    have ho22 := obS ew22
    obtain ⟨S22, e22, h⟩ := bd h
    refine j_cV (st := []) K (r_V (vs := [vI x1]) (n := 1) (o := o) K (c_X8_holds e22) ho22 (by decide) rfl dX8_opensOne_22 z839 z841 zs30 z13 z842 ⟨zd_X8_holds, rfl, rfl, rfl, ⟨Nat.le_of_ble_eq_true rfl, Nat.le_of_ble_eq_true rfl⟩, Nat.le_of_ble_eq_true rfl, Nat.le_of_ble_eq_true rfl, Nat.le_of_ble_eq_true rfl⟩) rfl ?_
    refine j_iconst (v := (1 : Int32)) K dX8_opensOne_25 (by decide) ?_
    exact j_zret K X dX8_opensOne_26 h
  · replace h := it c5 h
    refine j_iconst (v := (0 : Int32)) K dX8_opensOne_8 (by decide) ?_
    exact j_zret K X dX8_opensOne_9 h
theorem c_X8_opensOne {l : Launch} {S : Hp} {o : Nat} {x1 : Int32} {res : Int32 × Hp} (h : F_X8_opensOne S o x1 = some res) : Ct l yX8_opensOne cX8_opensOne 2 (some .boolean) (rmd 1 0 0) 0 0 [vR (some o), vI x1] S (QI res) :=
  z_entry (by decide +kernel) (Nat.le_of_ble_eq_true rfl) (fun E ad K X => w_X8_opensOne K X h)

theorem dX8_signOf_0 : decode cX8_signOf 0 = .ok (.aload_n 0, 1) ∧ 0 + 1 = 1 := ⟨by decide +kernel, rfl⟩
theorem dX8_signOf_1 : decode cX8_signOf 1 = .ok (.getfield 120, 3) ∧ 1 + 3 = 4 := ⟨by decide +kernel, rfl⟩
theorem dX8_signOf_4 : decode cX8_signOf 4 = .ok (.iconst 4, 1) ∧ 4 + 1 = 5 := ⟨by decide +kernel, rfl⟩
theorem dX8_signOf_5 : decode cX8_signOf 5 = .ok (.if_icmp .ne 8, 3) ∧ 5 + 3 = 8 ∧ ((5 : Nat) : Int) + (8) = ((13 : Nat) : Int) := ⟨by decide +kernel, rfl, by decide⟩
theorem dX8_signOf_8 : decode cX8_signOf 8 = .ok (.bipush 11, 2) ∧ 8 + 2 = 10 := ⟨by decide +kernel, rfl⟩
theorem dX8_signOf_10 : decode cX8_signOf 10 = .ok (.goto 87, 3) ∧ ((10 : Nat) : Int) + (87) = ((97 : Nat) : Int) := ⟨by decide +kernel, by decide⟩
theorem dX8_signOf_13 : decode cX8_signOf 13 = .ok (.aload_n 0, 1) ∧ 13 + 1 = 14 := ⟨by decide +kernel, rfl⟩
theorem dX8_signOf_14 : decode cX8_signOf 14 = .ok (.getfield 120, 3) ∧ 14 + 3 = 17 := ⟨by decide +kernel, rfl⟩
theorem dX8_signOf_17 : decode cX8_signOf 17 = .ok (.iconst 5, 1) ∧ 17 + 1 = 18 := ⟨by decide +kernel, rfl⟩
theorem dX8_signOf_18 : decode cX8_signOf 18 = .ok (.if_icmp .ne 8, 3) ∧ 18 + 3 = 21 ∧ ((18 : Nat) : Int) + (8) = ((26 : Nat) : Int) := ⟨by decide +kernel, rfl, by decide⟩
theorem dX8_signOf_21 : decode cX8_signOf 21 = .ok (.bipush 12, 2) ∧ 21 + 2 = 23 := ⟨by decide +kernel, rfl⟩
theorem dX8_signOf_23 : decode cX8_signOf 23 = .ok (.goto 74, 3) ∧ ((23 : Nat) : Int) + (74) = ((97 : Nat) : Int) := ⟨by decide +kernel, by decide⟩
theorem dX8_signOf_26 : decode cX8_signOf 26 = .ok (.aload_n 0, 1) ∧ 26 + 1 = 27 := ⟨by decide +kernel, rfl⟩
theorem dX8_signOf_27 : decode cX8_signOf 27 = .ok (.getfield 120, 3) ∧ 27 + 3 = 30 := ⟨by decide +kernel, rfl⟩
theorem dX8_signOf_30 : decode cX8_signOf 30 = .ok (.bipush 60, 2) ∧ 30 + 2 = 32 := ⟨by decide +kernel, rfl⟩
theorem dX8_signOf_32 : decode cX8_signOf 32 = .ok (.if_icmp .ne 8, 3) ∧ 32 + 3 = 35 ∧ ((32 : Nat) : Int) + (8) = ((40 : Nat) : Int) := ⟨by decide +kernel, rfl, by decide⟩
theorem dX8_signOf_35 : decode cX8_signOf 35 = .ok (.bipush 14, 2) ∧ 35 + 2 = 37 := ⟨by decide +kernel, rfl⟩
theorem dX8_signOf_37 : decode cX8_signOf 37 = .ok (.goto 60, 3) ∧ ((37 : Nat) : Int) + (60) = ((97 : Nat) : Int) := ⟨by decide +kernel, by decide⟩
theorem dX8_signOf_40 : decode cX8_signOf 40 = .ok (.aload_n 0, 1) ∧ 40 + 1 = 41 := ⟨by decide +kernel, rfl⟩
theorem dX8_signOf_41 : decode cX8_signOf 41 = .ok (.getfield 120, 3) ∧ 41 + 3 = 44 := ⟨by decide +kernel, rfl⟩
theorem dX8_signOf_44 : decode cX8_signOf 44 = .ok (.bipush 61, 2) ∧ 44 + 2 = 46 := ⟨by decide +kernel, rfl⟩
theorem dX8_signOf_46 : decode cX8_signOf 46 = .ok (.if_icmp .ne 8, 3) ∧ 46 + 3 = 49 ∧ ((46 : Nat) : Int) + (8) = ((54 : Nat) : Int) := ⟨by decide +kernel, rfl, by decide⟩
theorem dX8_signOf_49 : decode cX8_signOf 49 = .ok (.bipush 15, 2) ∧ 49 + 2 = 51 := ⟨by decide +kernel, rfl⟩
theorem dX8_signOf_51 : decode cX8_signOf 51 = .ok (.goto 46, 3) ∧ ((51 : Nat) : Int) + (46) = ((97 : Nat) : Int) := ⟨by decide +kernel, by decide⟩
theorem dX8_signOf_54 : decode cX8_signOf 54 = .ok (.aload_n 0, 1) ∧ 54 + 1 = 55 := ⟨by decide +kernel, rfl⟩
theorem dX8_signOf_55 : decode cX8_signOf 55 = .ok (.getfield 120, 3) ∧ 55 + 3 = 58 := ⟨by decide +kernel, rfl⟩
theorem dX8_signOf_58 : decode cX8_signOf 58 = .ok (.bipush 43, 2) ∧ 58 + 2 = 60 := ⟨by decide +kernel, rfl⟩
theorem dX8_signOf_60 : decode cX8_signOf 60 = .ok (.if_icmp .ne 8, 3) ∧ 60 + 3 = 63 ∧ ((60 : Nat) : Int) + (8) = ((68 : Nat) : Int) := ⟨by decide +kernel, rfl, by decide⟩
theorem dX8_signOf_63 : decode cX8_signOf 63 = .ok (.bipush 16, 2) ∧ 63 + 2 = 65 := ⟨by decide +kernel, rfl⟩
theorem dX8_signOf_65 : decode cX8_signOf 65 = .ok (.goto 32, 3) ∧ ((65 : Nat) : Int) + (32) = ((97 : Nat) : Int) := ⟨by decide +kernel, by decide⟩
theorem dX8_signOf_68 : decode cX8_signOf 68 = .ok (.aload_n 0, 1) ∧ 68 + 1 = 69 := ⟨by decide +kernel, rfl⟩
theorem dX8_signOf_69 : decode cX8_signOf 69 = .ok (.getfield 120, 3) ∧ 69 + 3 = 72 := ⟨by decide +kernel, rfl⟩
theorem dX8_signOf_72 : decode cX8_signOf 72 = .ok (.bipush 45, 2) ∧ 72 + 2 = 74 := ⟨by decide +kernel, rfl⟩
theorem dX8_signOf_74 : decode cX8_signOf 74 = .ok (.if_icmp .ne 8, 3) ∧ 74 + 3 = 77 ∧ ((74 : Nat) : Int) + (8) = ((82 : Nat) : Int) := ⟨by decide +kernel, rfl, by decide⟩
theorem dX8_signOf_77 : decode cX8_signOf 77 = .ok (.bipush 17, 2) ∧ 77 + 2 = 79 := ⟨by decide +kernel, rfl⟩
theorem dX8_signOf_79 : decode cX8_signOf 79 = .ok (.goto 18, 3) ∧ ((79 : Nat) : Int) + (18) = ((97 : Nat) : Int) := ⟨by decide +kernel, by decide⟩
theorem dX8_signOf_82 : decode cX8_signOf 82 = .ok (.aload_n 0, 1) ∧ 82 + 1 = 83 := ⟨by decide +kernel, rfl⟩
theorem dX8_signOf_83 : decode cX8_signOf 83 = .ok (.getfield 120, 3) ∧ 83 + 3 = 86 := ⟨by decide +kernel, rfl⟩
theorem dX8_signOf_86 : decode cX8_signOf 86 = .ok (.bipush 42, 2) ∧ 86 + 2 = 88 := ⟨by decide +kernel, rfl⟩
theorem dX8_signOf_88 : decode cX8_signOf 88 = .ok (.if_icmp .ne 8, 3) ∧ 88 + 3 = 91 ∧ ((88 : Nat) : Int) + (8) = ((96 : Nat) : Int) := ⟨by decide +kernel, rfl, by decide⟩
theorem dX8_signOf_91 : decode cX8_signOf 91 = .ok (.bipush 18, 2) ∧ 91 + 2 = 93 := ⟨by decide +kernel, rfl⟩
theorem dX8_signOf_93 : decode cX8_signOf 93 = .ok (.goto 4, 3) ∧ ((93 : Nat) : Int) + (4) = ((97 : Nat) : Int) := ⟨by decide +kernel, by decide⟩
theorem dX8_signOf_96 : decode cX8_signOf 96 = .ok (.iconst (-1), 1) ∧ 96 + 1 = 97 := ⟨by decide +kernel, rfl⟩
theorem dX8_signOf_97 : decode cX8_signOf 97 = .ok (.ireturn, 1) := by decide +kernel
def B_X8_signOf_97 (o : Nat) (S : Hp) (s0 : Int32) : Option (Int32 × Hp) :=
  some (s0, S)
set_option maxRecDepth 100000 in
set_option maxHeartbeats 4000000 in
theorem w_X8_signOf_97 {E : Cx} {l : Launch} {res : Int32 × Hp} {ad : Nat → Nat} {o : Nat} {S : Hp} {s0 : Int32} (K : Kx E cX8_signOf RX8 (rmd 0 0 0)) (X : Bx E l yX8_signOf 1 (some .int) 0 0 ad (QI res)) (h : B_X8_signOf_97 o S s0 = some res) : J E 0 0 97 [] [vI s0] S ad := by
  exact j_iret K X dX8_signOf_97 h
def F_X8_signOf (S : Hp) (o : Nat) : Option (Int32 × Hp) :=
  (gI S (some o) 6 24).bind fun v1 =>
  if v1 = (4 : Int32) then
    B_X8_signOf_97 o S (11 : Int32)
  else
    (gI S (some o) 6 24).bind fun v14 =>
    if v14 = (5 : Int32) then
      B_X8_signOf_97 o S (12 : Int32)
    else
      (gI S (some o) 6 24).bind fun v27 =>
      if v27 = (60 : Int32) then
        B_X8_signOf_97 o S (14 : Int32)
      else
        (gI S (some o) 6 24).bind fun v41 =>
        if v41 = (61 : Int32) then
          B_X8_signOf_97 o S (15 : Int32)
        else
          (gI S (some o) 6 24).bind fun v55 =>
          if v55 = (43 : Int32) then
            B_X8_signOf_97 o S (16 : Int32)
          else
            (gI S (some o) 6 24).bind fun v69 =>
            if v69 = (45 : Int32) then
              B_X8_signOf_97 o S (17 : Int32)
            else
              (gI S (some o) 6 24).bind fun v83 =>
              if v83 = (42 : Int32) then
                B_X8_signOf_97 o S (18 : Int32)
              else
                B_X8_signOf_97 o S (-1 : Int32)
set_option maxRecDepth 100000 in
set_option maxHeartbeats 4000000 in
theorem w_X8_signOf {E : Cx} {l : Launch} {res : Int32 × Hp} {ad : Nat → Nat} {S : Hp} {o : Nat} (K : Kx E cX8_signOf RX8 (rmd 0 0 0)) (X : Bx E l yX8_signOf 1 (some .int) 0 0 ad (QI res)) (h : F_X8_signOf S o = some res) : J E 0 0 0 [(0, vR (some o))] [] S ad := by
  refine j_aload_n K dX8_signOf_0 rfl 0 rfl ?_
  obtain ⟨v1, e1, h⟩ := bd h
  refine fgX8_120 K dX8_signOf_1 e1 ?_
  refine j_iconst (v := (4 : Int32)) K dX8_signOf_4 (by decide) ?_
  refine j_icmp_ne K dX8_signOf_5 (fun c5 => ?_) (fun c5 => ?_)
  · replace h := ie c5 h
    refine j_aload_n K dX8_signOf_13 rfl 0 rfl ?_
    obtain ⟨v14, e14, h⟩ := bd h
    refine fgX8_120 K dX8_signOf_14 e14 ?_
    refine j_iconst (v := (5 : Int32)) K dX8_signOf_17 (by decide) ?_
    refine j_icmp_ne K dX8_signOf_18 (fun c18 => ?_) (fun c18 => ?_)
    · replace h := ie c18 h
      refine j_aload_n K dX8_signOf_26 rfl 0 rfl ?_
      obtain ⟨v27, e27, h⟩ := bd h
      refine fgX8_120 K dX8_signOf_27 e27 ?_
      refine j_bipush (v := (60 : Int32)) K dX8_signOf_30 (by decide) ?_
      refine j_icmp_ne K dX8_signOf_32 (fun c32 => ?_) (fun c32 => ?_)
      · replace h := ie c32 h
        refine j_aload_n K dX8_signOf_40 rfl 0 rfl ?_
        obtain ⟨v41, e41, h⟩ := bd h
        refine fgX8_120 K dX8_signOf_41 e41 ?_
        refine j_bipush (v := (61 : Int32)) K dX8_signOf_44 (by decide) ?_
        refine j_icmp_ne K dX8_signOf_46 (fun c46 => ?_) (fun c46 => ?_)
        · replace h := ie c46 h
          refine j_aload_n K dX8_signOf_54 rfl 0 rfl ?_
          obtain ⟨v55, e55, h⟩ := bd h
          refine fgX8_120 K dX8_signOf_55 e55 ?_
          refine j_bipush (v := (43 : Int32)) K dX8_signOf_58 (by decide) ?_
          refine j_icmp_ne K dX8_signOf_60 (fun c60 => ?_) (fun c60 => ?_)
          · replace h := ie c60 h
            refine j_aload_n K dX8_signOf_68 rfl 0 rfl ?_
            obtain ⟨v69, e69, h⟩ := bd h
            refine fgX8_120 K dX8_signOf_69 e69 ?_
            refine j_bipush (v := (45 : Int32)) K dX8_signOf_72 (by decide) ?_
            refine j_icmp_ne K dX8_signOf_74 (fun c74 => ?_) (fun c74 => ?_)
            · replace h := ie c74 h
              refine j_aload_n K dX8_signOf_82 rfl 0 rfl ?_
              obtain ⟨v83, e83, h⟩ := bd h
              refine fgX8_120 K dX8_signOf_83 e83 ?_
              refine j_bipush (v := (42 : Int32)) K dX8_signOf_86 (by decide) ?_
              refine j_icmp_ne K dX8_signOf_88 (fun c88 => ?_) (fun c88 => ?_)
              · replace h := ie c88 h
                refine j_iconst (v := (-1 : Int32)) K dX8_signOf_96 (by decide) ?_
                exact j_sub [] rfl (w_X8_signOf_97 K X h)
              · replace h := it c88 h
                refine j_bipush (v := (18 : Int32)) K dX8_signOf_91 (by decide) ?_
                refine j_goto K dX8_signOf_93 ?_
                exact j_sub [] rfl (w_X8_signOf_97 K X h)
            · replace h := it c74 h
              refine j_bipush (v := (17 : Int32)) K dX8_signOf_77 (by decide) ?_
              refine j_goto K dX8_signOf_79 ?_
              exact j_sub [] rfl (w_X8_signOf_97 K X h)
          · replace h := it c60 h
            refine j_bipush (v := (16 : Int32)) K dX8_signOf_63 (by decide) ?_
            refine j_goto K dX8_signOf_65 ?_
            exact j_sub [] rfl (w_X8_signOf_97 K X h)
        · replace h := it c46 h
          refine j_bipush (v := (15 : Int32)) K dX8_signOf_49 (by decide) ?_
          refine j_goto K dX8_signOf_51 ?_
          exact j_sub [] rfl (w_X8_signOf_97 K X h)
      · replace h := it c32 h
        refine j_bipush (v := (14 : Int32)) K dX8_signOf_35 (by decide) ?_
        refine j_goto K dX8_signOf_37 ?_
        exact j_sub [] rfl (w_X8_signOf_97 K X h)
    · replace h := it c18 h
      refine j_bipush (v := (12 : Int32)) K dX8_signOf_21 (by decide) ?_
      refine j_goto K dX8_signOf_23 ?_
      exact j_sub [] rfl (w_X8_signOf_97 K X h)
  · replace h := it c5 h
    refine j_bipush (v := (11 : Int32)) K dX8_signOf_8 (by decide) ?_
    refine j_goto K dX8_signOf_10 ?_
    exact j_sub [] rfl (w_X8_signOf_97 K X h)
theorem c_X8_signOf {l : Launch} {S : Hp} {o : Nat} {res : Int32 × Hp} (h : F_X8_signOf S o = some res) : Ct l yX8_signOf cX8_signOf 1 (some .int) (rmd 0 0 0) 0 0 [vR (some o)] S (QI res) :=
  z_entry (by decide +kernel) (Nat.le_of_ble_eq_true rfl) (fun E ad K X => w_X8_signOf K X h)

theorem dX8_between_0 : decode cX8_between 0 = .ok (.aload_n 0, 1) ∧ 0 + 1 = 1 := ⟨by decide +kernel, rfl⟩
theorem dX8_between_1 : decode cX8_between 1 = .ok (.iload_n 1, 1) ∧ 1 + 1 = 2 := ⟨by decide +kernel, rfl⟩
theorem dX8_between_2 : decode cX8_between 2 = .ok (.invokestatic 136, 3) := by decide +kernel
theorem dX8_between_5 : decode cX8_between 5 = .ok (.iconst 4, 1) ∧ 5 + 1 = 6 := ⟨by decide +kernel, rfl⟩
theorem dX8_between_6 : decode cX8_between 6 = .ok (.if_icmp .ne 7, 3) ∧ 6 + 3 = 9 ∧ ((6 : Nat) : Int) + (7) = ((13 : Nat) : Int) := ⟨by decide +kernel, rfl, by decide⟩
theorem dX8_between_9 : decode cX8_between 9 = .ok (.iconst 5, 1) ∧ 9 + 1 = 10 := ⟨by decide +kernel, rfl⟩
theorem dX8_between_10 : decode cX8_between 10 = .ok (.goto 7, 3) ∧ ((10 : Nat) : Int) + (7) = ((17 : Nat) : Int) := ⟨by decide +kernel, by decide⟩
theorem dX8_between_13 : decode cX8_between 13 = .ok (.iload_n 1, 1) ∧ 13 + 1 = 14 := ⟨by decide +kernel, rfl⟩
theorem dX8_between_14 : decode cX8_between 14 = .ok (.invokestatic 136, 3) := by decide +kernel
theorem dX8_between_17 : decode cX8_between 17 = .ok (.invokevirtual 149, 3) := by decide +kernel
theorem dX8_between_20 : decode cX8_between 20 = .ok (.iload_n 1, 1) ∧ 20 + 1 = 21 := ⟨by decide +kernel, rfl⟩
theorem dX8_between_21 : decode cX8_between 21 = .ok (.invokestatic 136, 3) := by decide +kernel
theorem dX8_between_24 : decode cX8_between 24 = .ok (.iconst 4, 1) ∧ 24 + 1 = 25 := ⟨by decide +kernel, rfl⟩
theorem dX8_between_25 : decode cX8_between 25 = .ok (.if_icmp .ne 30, 3) ∧ 25 + 3 = 28 ∧ ((25 : Nat) : Int) + (30) = ((55 : Nat) : Int) := ⟨by decide +kernel, rfl, by decide⟩
theorem dX8_between_28 : decode cX8_between 28 = .ok (.aload_n 0, 1) ∧ 28 + 1 = 29 := ⟨by decide +kernel, rfl⟩
theorem dX8_between_29 : decode cX8_between 29 = .ok (.getfield 133, 3) ∧ 29 + 3 = 32 := ⟨by decide +kernel, rfl⟩
theorem dX8_between_32 : decode cX8_between 32 = .ok (.ifCond .le 23, 3) ∧ 32 + 3 = 35 ∧ ((32 : Nat) : Int) + (23) = ((55 : Nat) : Int) := ⟨by decide +kernel, rfl, by decide⟩
theorem dX8_between_35 : decode cX8_between 35 = .ok (.aload_n 0, 1) ∧ 35 + 1 = 36 := ⟨by decide +kernel, rfl⟩
theorem dX8_between_36 : decode cX8_between 36 = .ok (.getfield 58, 3) ∧ 36 + 3 = 39 := ⟨by decide +kernel, rfl⟩
theorem dX8_between_39 : decode cX8_between 39 = .ok (.aload_n 0, 1) ∧ 39 + 1 = 40 := ⟨by decide +kernel, rfl⟩
theorem dX8_between_40 : decode cX8_between 40 = .ok (.getfield 133, 3) ∧ 40 + 3 = 43 := ⟨by decide +kernel, rfl⟩
theorem dX8_between_43 : decode cX8_between 43 = .ok (.iconst 1, 1) ∧ 43 + 1 = 44 := ⟨by decide +kernel, rfl⟩
theorem dX8_between_44 : decode cX8_between 44 = .ok (.isub, 1) ∧ 44 + 1 = 45 := ⟨by decide +kernel, rfl⟩
theorem dX8_between_45 : decode cX8_between 45 = .ok (.iaload, 1) ∧ 45 + 1 = 46 := ⟨by decide +kernel, rfl⟩
theorem dX8_between_46 : decode cX8_between 46 = .ok (.invokestatic 136, 3) := by decide +kernel
theorem dX8_between_49 : decode cX8_between 49 = .ok (.iconst 4, 1) ∧ 49 + 1 = 50 := ⟨by decide +kernel, rfl⟩
theorem dX8_between_50 : decode cX8_between 50 = .ok (.if_icmp .ne 5, 3) ∧ 50 + 3 = 53 ∧ ((50 : Nat) : Int) + (5) = ((55 : Nat) : Int) := ⟨by decide +kernel, rfl, by decide⟩
theorem dX8_between_53 : decode cX8_between 53 = .ok (.iconst 0, 1) ∧ 53 + 1 = 54 := ⟨by decide +kernel, rfl⟩
theorem dX8_between_54 : decode cX8_between 54 = .ok (.ireturn, 1) := by decide +kernel
theorem dX8_between_55 : decode cX8_between 55 = .ok (.aload_n 0, 1) ∧ 55 + 1 = 56 := ⟨by decide +kernel, rfl⟩
theorem dX8_between_56 : decode cX8_between 56 = .ok (.iload_n 1, 1) ∧ 56 + 1 = 57 := ⟨by decide +kernel, rfl⟩
theorem dX8_between_57 : decode cX8_between 57 = .ok (.invokevirtual 146, 3) := by decide +kernel
theorem dX8_between_60 : decode cX8_between 60 = .ok (.iconst 1, 1) ∧ 60 + 1 = 61 := ⟨by decide +kernel, rfl⟩
theorem dX8_between_61 : decode cX8_between 61 = .ok (.ireturn, 1) := by decide +kernel
def B_X8_between_55 (fu : Nat) (o : Nat) (S : Hp) (x1 : Int32) : Option (Int32 × Hp) :=
  (ob S 6 (some o)).bind fun _ =>
  (F_X8_holds S o x1).bind fun S57 =>
  zb (1 : Int32) S57
set_option maxRecDepth 100000 in
set_option maxHeartbeats 4000000 in
theorem w_X8_between_55 {E : Cx} {l : Launch} {res : Int32 × Hp} {ad : Nat → Nat} {fu : Nat} {o : Nat} {S : Hp} {x1 : Int32} (K : Kx E cX8_between RX8 (rmd 2 0 0)) (X : Bx E l yX8_between 2 (some .boolean) 0 0 ad (QI res)) (h : B_X8_between_55 fu o S x1 = some res) : J E 0 0 55 [(0, vR (some o)), (1, vI x1)] [] S ad := by
  refine j_aload_n K dX8_between_55 rfl 0 rfl ?_
  refine j_iload_n K dX8_between_56 rfl 1 rfl ?_
  obtain ⟨w57, ew57, h⟩ := bd h
  have ho57 := obS ew57
  obtain ⟨S57, e57, h⟩ := bd h
  refine j_cV (st := []) K (r_V (vs := [vI x1]) (n := 1) (o := o) K (c_X8_holds e57) ho57 (by decide) rfl dX8_between_57 z839 z841 zs30 z13 z842 ⟨zd_X8_holds, rfl, rfl, rfl, ⟨Nat.le_of_ble_eq_true rfl, Nat.le_of_ble_eq_true rfl⟩, Nat.le_of_ble_eq_true rfl, Nat.le_of_ble_eq_true rfl, Nat.le_of_ble_eq_true rfl⟩) rfl ?_
  refine j_iconst (v := (1 : Int32)) K dX8_between_60 (by decide) ?_
  exact j_zret K X dX8_between_61 h
def B_X8_between_17 (fu : Nat) (o : Nat) (S : Hp) (x1 : Int32) (s0 : Int32) (s1 : Option Nat) : Option (Int32 × Hp) :=
  (ob S 6 s1).bind fun o17 =>
  (F_X8_unwinds fu S o17 s0).bind fun S17 =>
  b2 (F_X8_rank S17 x1) fun v21 S21 =>
  if v21 = (4 : Int32) then
    (gI S21 (some o) 6 28).bind fun v29 =>
    if v29 ≤ 0 then
      B_X8_between_55 fu o S21 x1
    else
      (gR S21 (some o) 6 27).bind fun v36 =>
      (gI S21 (some o) 6 28).bind fun v40 =>
      (aG S21 v36 (v40 - (1 : Int32))).bind fun v45 =>
      b2 (F_X8_rank S21 v45) fun v46 S46 =>
      if v46 = (4 : Int32) then
        zb (0 : Int32) S46
      else
        B_X8_between_55 fu o S46 x1
  else
    B_X8_between_55 fu o S21 x1
set_option maxRecDepth 100000 in
set_option maxHeartbeats 4000000 in
theorem w_X8_between_17 {E : Cx} {l : Launch} {res : Int32 × Hp} {ad : Nat → Nat} {fu : Nat} {o : Nat} {S : Hp} {x1 : Int32} {s0 : Int32} {s1 : Option Nat} (K : Kx E cX8_between RX8 (rmd 2 0 0)) (X : Bx E l yX8_between 2 (some .boolean) 0 0 ad (QI res)) (h : B_X8_between_17 fu o S x1 s0 s1 = some res) : J E 0 0 17 [(0, vR (some o)), (1, vI x1)] [vI s0, vR s1] S ad := by
  obtain ⟨o17, ew17, hz17⟩ := bd h
  obtain ⟨er17, ho17⟩ := ob_some ew17
  subst er17
  have h := hz17
  obtain ⟨S17, e17, h⟩ := bd h
  refine j_cV (st := []) K (r_V (vs := [vI s0]) (n := 1) (o := o17) K (c_X8_unwinds e17) ho17 (by decide) rfl dX8_between_17 z828 z830 zs28 z13 z831 ⟨zd_X8_unwinds, rfl, rfl, rfl, ⟨Nat.le_of_ble_eq_true rfl, Nat.le_of_ble_eq_true rfl⟩, Nat.le_of_ble_eq_true rfl, Nat.le_of_ble_eq_true rfl, Nat.le_of_ble_eq_true rfl⟩) rfl ?_
  refine j_iload_n K dX8_between_20 rfl 1 rfl ?_
  obtain ⟨v21, S21, e21, h⟩ := bd2 h
  refine j_cI (st := []) K (r_S (vs := [vI x1]) (n := 1) K (c_X8_rank e21) dX8_between_21 z832 z833 z13 z834 ⟨zd_X8_rank, rfl, rfl, rfl, ⟨Nat.le_of_ble_eq_true rfl, Nat.le_of_ble_eq_true rfl⟩, Nat.le_of_ble_eq_true rfl, Nat.le_of_ble_eq_true rfl, Nat.le_of_ble_eq_true rfl⟩) rfl ?_
  refine j_iconst (v := (4 : Int32)) K dX8_between_24 (by decide) ?_
  refine j_icmp_ne K dX8_between_25 (fun c25 => ?_) (fun c25 => ?_)
  · replace h := ie c25 h
    exact w_X8_between_55 K X h
  · replace h := it c25 h
    refine j_aload_n K dX8_between_28 rfl 0 rfl ?_
    obtain ⟨v29, e29, h⟩ := bd h
    refine fgX8_133 K dX8_between_29 e29 ?_
    refine j_if_le K dX8_between_32 (fun c32 => ?_) (fun c32 => ?_)
    · replace h := it c32 h
      exact w_X8_between_55 K X h
    · replace h := ie c32 h
      refine j_aload_n K dX8_between_35 rfl 0 rfl ?_
      obtain ⟨v36, e36, h⟩ := bd h
      refine fgX8_58 K dX8_between_36 e36 ?_
      refine j_aload_n K dX8_between_39 rfl 0 rfl ?_
      obtain ⟨v40, e40, h⟩ := bd h
      refine fgX8_133 K dX8_between_40 e40 ?_
      refine j_iconst (v := (1 : Int32)) K dX8_between_43 (by decide) ?_
      refine j_isub K dX8_between_44 ?_
      obtain ⟨v45, e45, h⟩ := bd h
      refine j_aG K dX8_between_45 e45 ?_
      obtain ⟨v46, S46, e46, h⟩ := bd2 h
      refine j_cI (st := []) K (r_S (vs := [vI v45]) (n := 1) K (c_X8_rank e46) dX8_between_46 z832 z833 z13 z834 ⟨zd_X8_rank, rfl, rfl, rfl, ⟨Nat.le_of_ble_eq_true rfl, Nat.le_of_ble_eq_true rfl⟩, Nat.le_of_ble_eq_true rfl, Nat.le_of_ble_eq_true rfl, Nat.le_of_ble_eq_true rfl⟩) rfl ?_
      refine j_iconst (v := (4 : Int32)) K dX8_between_49 (by decide) ?_
      refine j_icmp_ne K dX8_between_50 (fun c50 => ?_) (fun c50 => ?_)
      · replace h := ie c50 h
        exact w_X8_between_55 K X h
      · replace h := it c50 h
        refine j_iconst (v := (0 : Int32)) K dX8_between_53 (by decide) ?_
        exact j_zret K X dX8_between_54 h
def F_X8_between (fu : Nat) (S : Hp) (o : Nat) (x1 : Int32) : Option (Int32 × Hp) :=
  b2 (F_X8_rank S x1) fun v2 S2 =>
  if v2 = (4 : Int32) then
    B_X8_between_17 fu o S2 x1 (5 : Int32) (some o)
  else
    b2 (F_X8_rank S2 x1) fun v14 S14 =>
    B_X8_between_17 fu o S14 x1 v14 (some o)
set_option maxRecDepth 100000 in
set_option maxHeartbeats 4000000 in
theorem w_X8_between {E : Cx} {l : Launch} {res : Int32 × Hp} {ad : Nat → Nat} {fu : Nat} {S : Hp} {o : Nat} {x1 : Int32} (K : Kx E cX8_between RX8 (rmd 2 0 0)) (X : Bx E l yX8_between 2 (some .boolean) 0 0 ad (QI res)) (h : F_X8_between fu S o x1 = some res) : J E 0 0 0 [(0, vR (some o)), (1, vI x1)] [] S ad := by
  refine j_aload_n K dX8_between_0 rfl 0 rfl ?_
  refine j_iload_n K dX8_between_1 rfl 1 rfl ?_
  obtain ⟨v2, S2, e2, h⟩ := bd2 h
  refine j_cI (st := [vR (some o)]) K (r_S (vs := [vI x1]) (n := 1) K (c_X8_rank e2) dX8_between_2 z832 z833 z13 z834 ⟨zd_X8_rank, rfl, rfl, rfl, ⟨Nat.le_of_ble_eq_true rfl, Nat.le_of_ble_eq_true rfl⟩, Nat.le_of_ble_eq_true rfl, Nat.le_of_ble_eq_true rfl, Nat.le_of_ble_eq_true rfl⟩) rfl ?_
  refine j_iconst (v := (4 : Int32)) K dX8_between_5 (by decide) ?_
  refine j_icmp_ne K dX8_between_6 (fun c6 => ?_) (fun c6 => ?_)
  · replace h := ie c6 h
    refine j_iload_n K dX8_between_13 rfl 1 rfl ?_
    obtain ⟨v14, S14, e14, h⟩ := bd2 h
    refine j_cI (st := [vR (some o)]) K (r_S (vs := [vI x1]) (n := 1) K (c_X8_rank e14) dX8_between_14 z832 z833 z13 z834 ⟨zd_X8_rank, rfl, rfl, rfl, ⟨Nat.le_of_ble_eq_true rfl, Nat.le_of_ble_eq_true rfl⟩, Nat.le_of_ble_eq_true rfl, Nat.le_of_ble_eq_true rfl, Nat.le_of_ble_eq_true rfl⟩) rfl ?_
    exact w_X8_between_17 K X h
  · replace h := it c6 h
    refine j_iconst (v := (5 : Int32)) K dX8_between_9 (by decide) ?_
    refine j_goto K dX8_between_10 ?_
    exact w_X8_between_17 K X h
theorem c_X8_between {l : Launch} {fu : Nat} {S : Hp} {o : Nat} {x1 : Int32} {res : Int32 × Hp} (h : F_X8_between fu S o x1 = some res) : Ct l yX8_between cX8_between 2 (some .boolean) (rmd 2 0 0) 0 0 [vR (some o), vI x1] S (QI res) :=
  z_entry (by decide +kernel) (Nat.le_of_ble_eq_true rfl) (fun E ad K X => w_X8_between K X h)

theorem dX8_eRead_0 : decode cX8_eRead 0 = .ok (.aload_n 0, 1) ∧ 0 + 1 = 1 := ⟨by decide +kernel, rfl⟩
theorem dX8_eRead_1 : decode cX8_eRead 1 = .ok (.iconst 0, 1) ∧ 1 + 1 = 2 := ⟨by decide +kernel, rfl⟩
theorem dX8_eRead_2 : decode cX8_eRead 2 = .ok (.putfield 133, 3) ∧ 2 + 3 = 5 := ⟨by decide +kernel, rfl⟩
theorem dX8_eRead_5 : decode cX8_eRead 5 = .ok (.aload_n 0, 1) ∧ 5 + 1 = 6 := ⟨by decide +kernel, rfl⟩
theorem dX8_eRead_6 : decode cX8_eRead 6 = .ok (.iconst 0, 1) ∧ 6 + 1 = 7 := ⟨by decide +kernel, rfl⟩
theorem dX8_eRead_7 : decode cX8_eRead 7 = .ok (.putfield 140, 3) ∧ 7 + 3 = 10 := ⟨by decide +kernel, rfl⟩
theorem dX8_eRead_10 : decode cX8_eRead 10 = .ok (.iconst 1, 1) ∧ 10 + 1 = 11 := ⟨by decide +kernel, rfl⟩
theorem dX8_eRead_11 : decode cX8_eRead 11 = .ok (.istore_n 1, 1) ∧ 11 + 1 = 12 := ⟨by decide +kernel, rfl⟩
theorem dX8_eRead_12 : decode cX8_eRead 12 = .ok (.iconst 1, 1) ∧ 12 + 1 = 13 := ⟨by decide +kernel, rfl⟩
theorem dX8_eRead_13 : decode cX8_eRead 13 = .ok (.istore_n 2, 1) ∧ 13 + 1 = 14 := ⟨by decide +kernel, rfl⟩
theorem dX8_eRead_14 : decode cX8_eRead 14 = .ok (.aload_n 0, 1) ∧ 14 + 1 = 15 := ⟨by decide +kernel, rfl⟩
theorem dX8_eRead_15 : decode cX8_eRead 15 = .ok (.invokevirtual 152, 3) := by decide +kernel
theorem dX8_eRead_18 : decode cX8_eRead 18 = .ok (.iload_n 1, 1) ∧ 18 + 1 = 19 := ⟨by decide +kernel, rfl⟩
theorem dX8_eRead_19 : decode cX8_eRead 19 = .ok (.ifCond .eq 131, 3) ∧ 19 + 3 = 22 ∧ ((19 : Nat) : Int) + (131) = ((150 : Nat) : Int) := ⟨by decide +kernel, rfl, by decide⟩
theorem dX8_eRead_22 : decode cX8_eRead 22 = .ok (.aload_n 0, 1) ∧ 22 + 1 = 23 := ⟨by decide +kernel, rfl⟩
theorem dX8_eRead_23 : decode cX8_eRead 23 = .ok (.getfield 120, 3) ∧ 23 + 3 = 26 := ⟨by decide +kernel, rfl⟩
theorem dX8_eRead_26 : decode cX8_eRead 26 = .ok (.iconst 1, 1) ∧ 26 + 1 = 27 := ⟨by decide +kernel, rfl⟩
theorem dX8_eRead_27 : decode cX8_eRead 27 = .ok (.if_icmp .eq 11, 3) ∧ 27 + 3 = 30 ∧ ((27 : Nat) : Int) + (11) = ((38 : Nat) : Int) := ⟨by decide +kernel, rfl, by decide⟩
theorem dX8_eRead_30 : decode cX8_eRead 30 = .ok (.aload_n 0, 1) ∧ 30 + 1 = 31 := ⟨by decide +kernel, rfl⟩
theorem dX8_eRead_31 : decode cX8_eRead 31 = .ok (.getfield 120, 3) ∧ 31 + 3 = 34 := ⟨by decide +kernel, rfl⟩
theorem dX8_eRead_34 : decode cX8_eRead 34 = .ok (.iconst 2, 1) ∧ 34 + 1 = 35 := ⟨by decide +kernel, rfl⟩
theorem dX8_eRead_35 : decode cX8_eRead 35 = .ok (.if_icmp .ne 40, 3) ∧ 35 + 3 = 38 ∧ ((35 : Nat) : Int) + (40) = ((75 : Nat) : Int) := ⟨by decide +kernel, rfl, by decide⟩
theorem dX8_eRead_38 : decode cX8_eRead 38 = .ok (.aload_n 0, 1) ∧ 38 + 1 = 39 := ⟨by decide +kernel, rfl⟩
theorem dX8_eRead_39 : decode cX8_eRead 39 = .ok (.aload_n 0, 1) ∧ 39 + 1 = 40 := ⟨by decide +kernel, rfl⟩
theorem dX8_eRead_40 : decode cX8_eRead 40 = .ok (.getfield 120, 3) ∧ 40 + 3 = 43 := ⟨by decide +kernel, rfl⟩
theorem dX8_eRead_43 : decode cX8_eRead 43 = .ok (.iconst 1, 1) ∧ 43 + 1 = 44 := ⟨by decide +kernel, rfl⟩
theorem dX8_eRead_44 : decode cX8_eRead 44 = .ok (.if_icmp .ne 13, 3) ∧ 44 + 3 = 47 ∧ ((44 : Nat) : Int) + (13) = ((57 : Nat) : Int) := ⟨by decide +kernel, rfl, by decide⟩
theorem dX8_eRead_47 : decode cX8_eRead 47 = .ok (.ldc 155, 2) ∧ 47 + 2 = 49 := ⟨by decide +kernel, rfl⟩
theorem dX8_eRead_49 : decode cX8_eRead 49 = .ok (.aload_n 0, 1) ∧ 49 + 1 = 50 := ⟨by decide +kernel, rfl⟩
theorem dX8_eRead_50 : decode cX8_eRead 50 = .ok (.getfield 123, 3) ∧ 50 + 3 = 53 := ⟨by decide +kernel, rfl⟩
theorem dX8_eRead_53 : decode cX8_eRead 53 = .ok (.iadd, 1) ∧ 53 + 1 = 54 := ⟨by decide +kernel, rfl⟩
theorem dX8_eRead_54 : decode cX8_eRead 54 = .ok (.goto 7, 3) ∧ ((54 : Nat) : Int) + (7) = ((61 : Nat) : Int) := ⟨by decide +kernel, by decide⟩
theorem dX8_eRead_57 : decode cX8_eRead 57 = .ok (.aload_n 0, 1) ∧ 57 + 1 = 58 := ⟨by decide +kernel, rfl⟩
theorem dX8_eRead_58 : decode cX8_eRead 58 = .ok (.getfield 123, 3) ∧ 58 + 3 = 61 := ⟨by decide +kernel, rfl⟩
theorem dX8_eRead_61 : decode cX8_eRead 61 = .ok (.invokevirtual 143, 3) := by decide +kernel
theorem dX8_eRead_64 : decode cX8_eRead 64 = .ok (.aload_n 0, 1) ∧ 64 + 1 = 65 := ⟨by decide +kernel, rfl⟩
theorem dX8_eRead_65 : decode cX8_eRead 65 = .ok (.bipush 7, 2) ∧ 65 + 2 = 67 := ⟨by decide +kernel, rfl⟩
theorem dX8_eRead_67 : decode cX8_eRead 67 = .ok (.invokevirtual 149, 3) := by decide +kernel
theorem dX8_eRead_70 : decode cX8_eRead 70 = .ok (.iconst 0, 1) ∧ 70 + 1 = 71 := ⟨by decide +kernel, rfl⟩
theorem dX8_eRead_71 : decode cX8_eRead 71 = .ok (.istore_n 1, 1) ∧ 71 + 1 = 72 := ⟨by decide +kernel, rfl⟩
theorem dX8_eRead_72 : decode cX8_eRead 72 = .ok (.goto (-58), 3) ∧ ((72 : Nat) : Int) + (-58) = ((14 : Nat) : Int) := ⟨by decide +kernel, by decide⟩
theorem dX8_eRead_75 : decode cX8_eRead 75 = .ok (.aload_n 0, 1) ∧ 75 + 1 = 76 := ⟨by decide +kernel, rfl⟩
theorem dX8_eRead_76 : decode cX8_eRead 76 = .ok (.getfield 120, 3) ∧ 76 + 3 = 79 := ⟨by decide +kernel, rfl⟩
theorem dX8_eRead_79 : decode cX8_eRead 79 = .ok (.bipush 6, 2) ∧ 79 + 2 = 81 := ⟨by decide +kernel, rfl⟩
theorem dX8_eRead_81 : decode cX8_eRead 81 = .ok (.if_icmp .ne 18, 3) ∧ 81 + 3 = 84 ∧ ((81 : Nat) : Int) + (18) = ((99 : Nat) : Int) := ⟨by decide +kernel, rfl, by decide⟩
theorem dX8_eRead_84 : decode cX8_eRead 84 = .ok (.iload_n 2, 1) ∧ 84 + 1 = 85 := ⟨by decide +kernel, rfl⟩
theorem dX8_eRead_85 : decode cX8_eRead 85 = .ok (.ifCond .eq 14, 3) ∧ 85 + 3 = 88 ∧ ((85 : Nat) : Int) + (14) = ((99 : Nat) : Int) := ⟨by decide +kernel, rfl, by decide⟩
theorem dX8_eRead_88 : decode cX8_eRead 88 = .ok (.aload_n 0, 1) ∧ 88 + 1 = 89 := ⟨by decide +kernel, rfl⟩
theorem dX8_eRead_89 : decode cX8_eRead 89 = .ok (.bipush 13, 2) ∧ 89 + 2 = 91 := ⟨by decide +kernel, rfl⟩
theorem dX8_eRead_91 : decode cX8_eRead 91 = .ok (.invokevirtual 156, 3) := by decide +kernel
theorem dX8_eRead_94 : decode cX8_eRead 94 = .ok (.ifCond .ne (-80), 3) ∧ 94 + 3 = 97 ∧ ((94 : Nat) : Int) + (-80) = ((14 : Nat) : Int) := ⟨by decide +kernel, rfl, by decide⟩
theorem dX8_eRead_97 : decode cX8_eRead 97 = .ok (.iconst 0, 1) ∧ 97 + 1 = 98 := ⟨by decide +kernel, rfl⟩
theorem dX8_eRead_98 : decode cX8_eRead 98 = .ok (.ireturn, 1) := by decide +kernel
theorem dX8_eRead_99 : decode cX8_eRead 99 = .ok (.aload_n 0, 1) ∧ 99 + 1 = 100 := ⟨by decide +kernel, rfl⟩
theorem dX8_eRead_100 : decode cX8_eRead 100 = .ok (.getfield 120, 3) ∧ 100 + 3 = 103 := ⟨by decide +kernel, rfl⟩
theorem dX8_eRead_103 : decode cX8_eRead 103 = .ok (.bipush 45, 2) ∧ 103 + 2 = 105 := ⟨by decide +kernel, rfl⟩
theorem dX8_eRead_105 : decode cX8_eRead 105 = .ok (.if_icmp .ne 19, 3) ∧ 105 + 3 = 108 ∧ ((105 : Nat) : Int) + (19) = ((124 : Nat) : Int) := ⟨by decide +kernel, rfl, by decide⟩
theorem dX8_eRead_108 : decode cX8_eRead 108 = .ok (.aload_n 0, 1) ∧ 108 + 1 = 109 := ⟨by decide +kernel, rfl⟩
theorem dX8_eRead_109 : decode cX8_eRead 109 = .ok (.bipush 19, 2) ∧ 109 + 2 = 111 := ⟨by decide +kernel, rfl⟩
theorem dX8_eRead_111 : decode cX8_eRead 111 = .ok (.invokevirtual 156, 3) := by decide +kernel
theorem dX8_eRead_114 : decode cX8_eRead 114 = .ok (.ifCond .ne 5, 3) ∧ 114 + 3 = 117 ∧ ((114 : Nat) : Int) + (5) = ((119 : Nat) : Int) := ⟨by decide +kernel, rfl, by decide⟩
theorem dX8_eRead_117 : decode cX8_eRead 117 = .ok (.iconst 0, 1) ∧ 117 + 1 = 118 := ⟨by decide +kernel, rfl⟩
theorem dX8_eRead_118 : decode cX8_eRead 118 = .ok (.ireturn, 1) := by decide +kernel
theorem dX8_eRead_119 : decode cX8_eRead 119 = .ok (.iconst 0, 1) ∧ 119 + 1 = 120 := ⟨by decide +kernel, rfl⟩
theorem dX8_eRead_120 : decode cX8_eRead 120 = .ok (.istore_n 2, 1) ∧ 120 + 1 = 121 := ⟨by decide +kernel, rfl⟩
theorem dX8_eRead_121 : decode cX8_eRead 121 = .ok (.goto (-107), 3) ∧ ((121 : Nat) : Int) + (-107) = ((14 : Nat) : Int) := ⟨by decide +kernel, by decide⟩
theorem dX8_eRead_124 : decode cX8_eRead 124 = .ok (.aload_n 0, 1) ∧ 124 + 1 = 125 := ⟨by decide +kernel, rfl⟩
theorem dX8_eRead_125 : decode cX8_eRead 125 = .ok (.getfield 120, 3) ∧ 125 + 3 = 128 := ⟨by decide +kernel, rfl⟩
theorem dX8_eRead_128 : decode cX8_eRead 128 = .ok (.bipush 40, 2) ∧ 128 + 2 = 130 := ⟨by decide +kernel, rfl⟩
theorem dX8_eRead_130 : decode cX8_eRead 130 = .ok (.if_icmp .ne 18, 3) ∧ 130 + 3 = 133 ∧ ((130 : Nat) : Int) + (18) = ((148 : Nat) : Int) := ⟨by decide +kernel, rfl, by decide⟩
theorem dX8_eRead_133 : decode cX8_eRead 133 = .ok (.aload_n 0, 1) ∧ 133 + 1 = 134 := ⟨by decide +kernel, rfl⟩
theorem dX8_eRead_134 : decode cX8_eRead 134 = .ok (.iconst 0, 1) ∧ 134 + 1 = 135 := ⟨by decide +kernel, rfl⟩
theorem dX8_eRead_135 : decode cX8_eRead 135 = .ok (.invokevirtual 156, 3) := by decide +kernel
theorem dX8_eRead_138 : decode cX8_eRead 138 = .ok (.ifCond .ne 5, 3) ∧ 138 + 3 = 141 ∧ ((138 : Nat) : Int) + (5) = ((143 : Nat) : Int) := ⟨by decide +kernel, rfl, by decide⟩
theorem dX8_eRead_141 : decode cX8_eRead 141 = .ok (.iconst 0, 1) ∧ 141 + 1 = 142 := ⟨by decide +kernel, rfl⟩
theorem dX8_eRead_142 : decode cX8_eRead 142 = .ok (.ireturn, 1) := by decide +kernel
theorem dX8_eRead_143 : decode cX8_eRead 143 = .ok (.iconst 1, 1) ∧ 143 + 1 = 144 := ⟨by decide +kernel, rfl⟩
theorem dX8_eRead_144 : decode cX8_eRead 144 = .ok (.istore_n 2, 1) ∧ 144 + 1 = 145 := ⟨by decide +kernel, rfl⟩
theorem dX8_eRead_145 : decode cX8_eRead 145 = .ok (.goto (-131), 3) ∧ ((145 : Nat) : Int) + (-131) = ((14 : Nat) : Int) := ⟨by decide +kernel, by decide⟩
theorem dX8_eRead_148 : decode cX8_eRead 148 = .ok (.iconst 0, 1) ∧ 148 + 1 = 149 := ⟨by decide +kernel, rfl⟩
theorem dX8_eRead_149 : decode cX8_eRead 149 = .ok (.ireturn, 1) := by decide +kernel
theorem dX8_eRead_150 : decode cX8_eRead 150 = .ok (.aload_n 0, 1) ∧ 150 + 1 = 151 := ⟨by decide +kernel, rfl⟩
theorem dX8_eRead_151 : decode cX8_eRead 151 = .ok (.getfield 120, 3) ∧ 151 + 3 = 154 := ⟨by decide +kernel, rfl⟩
theorem dX8_eRead_154 : decode cX8_eRead 154 = .ok (.bipush 59, 2) ∧ 154 + 2 = 156 := ⟨by decide +kernel, rfl⟩
theorem dX8_eRead_156 : decode cX8_eRead 156 = .ok (.if_icmp .ne 21, 3) ∧ 156 + 3 = 159 ∧ ((156 : Nat) : Int) + (21) = ((177 : Nat) : Int) := ⟨by decide +kernel, rfl, by decide⟩
theorem dX8_eRead_159 : decode cX8_eRead 159 = .ok (.aload_n 0, 1) ∧ 159 + 1 = 160 := ⟨by decide +kernel, rfl⟩
theorem dX8_eRead_160 : decode cX8_eRead 160 = .ok (.iconst 1, 1) ∧ 160 + 1 = 161 := ⟨by decide +kernel, rfl⟩
theorem dX8_eRead_161 : decode cX8_eRead 161 = .ok (.invokevirtual 149, 3) := by decide +kernel
theorem dX8_eRead_164 : decode cX8_eRead 164 = .ok (.aload_n 0, 1) ∧ 164 + 1 = 165 := ⟨by decide +kernel, rfl⟩
theorem dX8_eRead_165 : decode cX8_eRead 165 = .ok (.getfield 133, 3) ∧ 165 + 3 = 168 := ⟨by decide +kernel, rfl⟩
theorem dX8_eRead_168 : decode cX8_eRead 168 = .ok (.ifCond .ne 7, 3) ∧ 168 + 3 = 171 ∧ ((168 : Nat) : Int) + (7) = ((175 : Nat) : Int) := ⟨by decide +kernel, rfl, by decide⟩
theorem dX8_eRead_171 : decode cX8_eRead 171 = .ok (.iconst 1, 1) ∧ 171 + 1 = 172 := ⟨by decide +kernel, rfl⟩
theorem dX8_eRead_172 : decode cX8_eRead 172 = .ok (.goto 4, 3) ∧ ((172 : Nat) : Int) + (4) = ((176 : Nat) : Int) := ⟨by decide +kernel, by decide⟩
theorem dX8_eRead_175 : decode cX8_eRead 175 = .ok (.iconst 0, 1) ∧ 175 + 1 = 176 := ⟨by decide +kernel, rfl⟩
theorem dX8_eRead_176 : decode cX8_eRead 176 = .ok (.ireturn, 1) := by decide +kernel
theorem dX8_eRead_177 : decode cX8_eRead 177 = .ok (.aload_n 0, 1) ∧ 177 + 1 = 178 := ⟨by decide +kernel, rfl⟩
theorem dX8_eRead_178 : decode cX8_eRead 178 = .ok (.getfield 120, 3) ∧ 178 + 3 = 181 := ⟨by decide +kernel, rfl⟩
theorem dX8_eRead_181 : decode cX8_eRead 181 = .ok (.bipush 41, 2) ∧ 181 + 2 = 183 := ⟨by decide +kernel, rfl⟩
theorem dX8_eRead_183 : decode cX8_eRead 183 = .ok (.if_icmp .ne 46, 3) ∧ 183 + 3 = 186 ∧ ((183 : Nat) : Int) + (46) = ((229 : Nat) : Int) := ⟨by decide +kernel, rfl, by decide⟩
theorem dX8_eRead_186 : decode cX8_eRead 186 = .ok (.aload_n 0, 1) ∧ 186 + 1 = 187 := ⟨by decide +kernel, rfl⟩
theorem dX8_eRead_187 : decode cX8_eRead 187 = .ok (.iconst 1, 1) ∧ 187 + 1 = 188 := ⟨by decide +kernel, rfl⟩
theorem dX8_eRead_188 : decode cX8_eRead 188 = .ok (.invokevirtual 149, 3) := by decide +kernel
theorem dX8_eRead_191 : decode cX8_eRead 191 = .ok (.aload_n 0, 1) ∧ 191 + 1 = 192 := ⟨by decide +kernel, rfl⟩
theorem dX8_eRead_192 : decode cX8_eRead 192 = .ok (.getfield 133, 3) ∧ 192 + 3 = 195 := ⟨by decide +kernel, rfl⟩
theorem dX8_eRead_195 : decode cX8_eRead 195 = .ok (.ifCond .ne 5, 3) ∧ 195 + 3 = 198 ∧ ((195 : Nat) : Int) + (5) = ((200 : Nat) : Int) := ⟨by decide +kernel, rfl, by decide⟩
theorem dX8_eRead_198 : decode cX8_eRead 198 = .ok (.iconst 0, 1) ∧ 198 + 1 = 199 := ⟨by decide +kernel, rfl⟩
theorem dX8_eRead_199 : decode cX8_eRead 199 = .ok (.ireturn, 1) := by decide +kernel
theorem dX8_eRead_200 : decode cX8_eRead 200 = .ok (.aload_n 0, 1) ∧ 200 + 1 = 201 := ⟨by decide +kernel, rfl⟩
theorem dX8_eRead_201 : decode cX8_eRead 201 = .ok (.dup, 1) ∧ 201 + 1 = 202 := ⟨by decide +kernel, rfl⟩
theorem dX8_eRead_202 : decode cX8_eRead 202 = .ok (.getfield 133, 3) ∧ 202 + 3 = 205 := ⟨by decide +kernel, rfl⟩
theorem dX8_eRead_205 : decode cX8_eRead 205 = .ok (.iconst 1, 1) ∧ 205 + 1 = 206 := ⟨by decide +kernel, rfl⟩
theorem dX8_eRead_206 : decode cX8_eRead 206 = .ok (.isub, 1) ∧ 206 + 1 = 207 := ⟨by decide +kernel, rfl⟩
theorem dX8_eRead_207 : decode cX8_eRead 207 = .ok (.putfield 133, 3) ∧ 207 + 3 = 210 := ⟨by decide +kernel, rfl⟩
theorem dX8_eRead_210 : decode cX8_eRead 210 = .ok (.aload_n 0, 1) ∧ 210 + 1 = 211 := ⟨by decide +kernel, rfl⟩
theorem dX8_eRead_211 : decode cX8_eRead 211 = .ok (.dup, 1) ∧ 211 + 1 = 212 := ⟨by decide +kernel, rfl⟩
theorem dX8_eRead_212 : decode cX8_eRead 212 = .ok (.getfield 140, 3) ∧ 212 + 3 = 215 := ⟨by decide +kernel, rfl⟩
theorem dX8_eRead_215 : decode cX8_eRead 215 = .ok (.iconst 1, 1) ∧ 215 + 1 = 216 := ⟨by decide +kernel, rfl⟩
theorem dX8_eRead_216 : decode cX8_eRead 216 = .ok (.isub, 1) ∧ 216 + 1 = 217 := ⟨by decide +kernel, rfl⟩
theorem dX8_eRead_217 : decode cX8_eRead 217 = .ok (.putfield 140, 3) ∧ 217 + 3 = 220 := ⟨by decide +kernel, rfl⟩
theorem dX8_eRead_220 : decode cX8_eRead 220 = .ok (.aload_n 0, 1) ∧ 220 + 1 = 221 := ⟨by decide +kernel, rfl⟩
theorem dX8_eRead_221 : decode cX8_eRead 221 = .ok (.bipush 7, 2) ∧ 221 + 2 = 223 := ⟨by decide +kernel, rfl⟩
theorem dX8_eRead_223 : decode cX8_eRead 223 = .ok (.invokevirtual 149, 3) := by decide +kernel
theorem dX8_eRead_226 : decode cX8_eRead 226 = .ok (.goto (-212), 3) ∧ ((226 : Nat) : Int) + (-212) = ((14 : Nat) : Int) := ⟨by decide +kernel, by decide⟩
theorem dX8_eRead_229 : decode cX8_eRead 229 = .ok (.aload_n 0, 1) ∧ 229 + 1 = 230 := ⟨by decide +kernel, rfl⟩
theorem dX8_eRead_230 : decode cX8_eRead 230 = .ok (.invokevirtual 159, 3) := by decide +kernel
theorem dX8_eRead_233 : decode cX8_eRead 233 = .ok (.istore_n 3, 1) ∧ 233 + 1 = 234 := ⟨by decide +kernel, rfl⟩
theorem dX8_eRead_234 : decode cX8_eRead 234 = .ok (.iload_n 3, 1) ∧ 234 + 1 = 235 := ⟨by decide +kernel, rfl⟩
theorem dX8_eRead_235 : decode cX8_eRead 235 = .ok (.iconst (-1), 1) ∧ 235 + 1 = 236 := ⟨by decide +kernel, rfl⟩
theorem dX8_eRead_236 : decode cX8_eRead 236 = .ok (.if_icmp .eq 11, 3) ∧ 236 + 3 = 239 ∧ ((236 : Nat) : Int) + (11) = ((247 : Nat) : Int) := ⟨by decide +kernel, rfl, by decide⟩
theorem dX8_eRead_239 : decode cX8_eRead 239 = .ok (.aload_n 0, 1) ∧ 239 + 1 = 240 := ⟨by decide +kernel, rfl⟩
theorem dX8_eRead_240 : decode cX8_eRead 240 = .ok (.iload_n 3, 1) ∧ 240 + 1 = 241 := ⟨by decide +kernel, rfl⟩
theorem dX8_eRead_241 : decode cX8_eRead 241 = .ok (.invokevirtual 162, 3) := by decide +kernel
theorem dX8_eRead_244 : decode cX8_eRead 244 = .ok (.ifCond .ne 5, 3) ∧ 244 + 3 = 247 ∧ ((244 : Nat) : Int) + (5) = ((249 : Nat) : Int) := ⟨by decide +kernel, rfl, by decide⟩
theorem dX8_eRead_247 : decode cX8_eRead 247 = .ok (.iconst 0, 1) ∧ 247 + 1 = 248 := ⟨by decide +kernel, rfl⟩
theorem dX8_eRead_248 : decode cX8_eRead 248 = .ok (.ireturn, 1) := by decide +kernel
theorem dX8_eRead_249 : decode cX8_eRead 249 = .ok (.iconst 1, 1) ∧ 249 + 1 = 250 := ⟨by decide +kernel, rfl⟩
theorem dX8_eRead_250 : decode cX8_eRead 250 = .ok (.istore_n 1, 1) ∧ 250 + 1 = 251 := ⟨by decide +kernel, rfl⟩
theorem dX8_eRead_251 : decode cX8_eRead 251 = .ok (.iload_n 3, 1) ∧ 251 + 1 = 252 := ⟨by decide +kernel, rfl⟩
theorem dX8_eRead_252 : decode cX8_eRead 252 = .ok (.bipush 12, 2) ∧ 252 + 2 = 254 := ⟨by decide +kernel, rfl⟩
theorem dX8_eRead_254 : decode cX8_eRead 254 = .ok (.if_icmp .gt 7, 3) ∧ 254 + 3 = 257 ∧ ((254 : Nat) : Int) + (7) = ((261 : Nat) : Int) := ⟨by decide +kernel, rfl, by decide⟩
theorem dX8_eRead_257 : decode cX8_eRead 257 = .ok (.iconst 1, 1) ∧ 257 + 1 = 258 := ⟨by decide +kernel, rfl⟩
theorem dX8_eRead_258 : decode cX8_eRead 258 = .ok (.goto 4, 3) ∧ ((258 : Nat) : Int) + (4) = ((262 : Nat) : Int) := ⟨by decide +kernel, by decide⟩
theorem dX8_eRead_261 : decode cX8_eRead 261 = .ok (.iconst 0, 1) ∧ 261 + 1 = 262 := ⟨by decide +kernel, rfl⟩
theorem dX8_eRead_262 : decode cX8_eRead 262 = .ok (.istore_n 2, 1) ∧ 262 + 1 = 263 := ⟨by decide +kernel, rfl⟩
theorem dX8_eRead_263 : decode cX8_eRead 263 = .ok (.goto (-249), 3) ∧ ((263 : Nat) : Int) + (-249) = ((14 : Nat) : Int) := ⟨by decide +kernel, by decide⟩
def B_X8_eRead_61 (k14 : Hp → Int32 → Int32 → Option (Int32 × Hp)) (fu : Nat) (o : Nat) (S : Hp) (x2 : Int32) (s0 : Int32) (s1 : Option Nat) : Option (Int32 × Hp) :=
  (ob S 6 s1).bind fun o61 =>
  (F_X8_puts S o61 s0).bind fun S61 =>
  (ob S61 6 (some o)).bind fun _ =>
  (F_X8_unwinds fu S61 o (7 : Int32)).bind fun S67 =>
  k14 S67 (0 : Int32) x2
set_option maxRecDepth 100000 in
set_option maxHeartbeats 4000000 in
theorem w_X8_eRead_61 {E : Cx} {l : Launch} {res : Int32 × Hp} {ad : Nat → Nat} {k14 : Hp → Int32 → Int32 → Option (Int32 × Hp)} {fu : Nat} {o : Nat} {S : Hp} {x2 : Int32} {s0 : Int32} {s1 : Option Nat} (K : Kx E cX8_eRead RX8 (rmd 3 0 0)) (X : Bx E l yX8_eRead 4 (some .boolean) 0 0 ad (QI res)) (hk14 : ∀ (S : Hp) (x1 : Int32) (x2 : Int32), k14 S x1 x2 = some res → J E 0 0 14 [(0, vR (some o)), (1, vI x1), (2, vI x2)] [] S ad) (h : B_X8_eRead_61 k14 fu o S x2 s0 s1 = some res) : J E 0 0 61 [(0, vR (some o)), (2, vI x2)] [vI s0, vR s1] S ad := by
  obtain ⟨o61, ew61, hz61⟩ := bd h
  obtain ⟨er61, ho61⟩ := ob_some ew61
  subst er61
  have h := hz61
  obtain ⟨S61, e61, h⟩ := bd h
  refine j_cV (st := []) K (r_V (vs := [vI s0]) (n := 1) (o := o61) K (c_X8_puts e61) ho61 (by decide) rfl dX8_eRead_61 z824 z826 zs27 z13 z827 ⟨zd_X8_puts, rfl, rfl, rfl, ⟨Nat.le_of_ble_eq_true rfl, Nat.le_of_ble_eq_true rfl⟩, Nat.le_of_ble_eq_true rfl, Nat.le_of_ble_eq_true rfl, Nat.le_of_ble_eq_true rfl⟩) rfl ?_
  refine j_aload_n K dX8_eRead_64 rfl 0 rfl ?_
  refine j_bipush (v := (7 : Int32)) K dX8_eRead_65 (by decide) ?_
  obtain ⟨w67, ew67, h⟩ := bd h
  have ho67 := obS ew67
  obtain ⟨S67, e67, h⟩ := bd h
  refine j_cV (st := []) K (r_V (vs := [vI (7 : Int32)]) (n := 1) (o := o) K (c_X8_unwinds e67) ho67 (by decide) rfl dX8_eRead_67 z828 z830 zs28 z13 z831 ⟨zd_X8_unwinds, rfl, rfl, rfl, ⟨Nat.le_of_ble_eq_true rfl, Nat.le_of_ble_eq_true rfl⟩, Nat.le_of_ble_eq_true rfl, Nat.le_of_ble_eq_true rfl, Nat.le_of_ble_eq_true rfl⟩) rfl ?_
  refine j_iconst (v := (0 : Int32)) K dX8_eRead_70 (by decide) ?_
  refine j_istore_n (lv' := [(1, vI (0 : Int32)), (0, vR (some o)), (2, vI x2)]) K dX8_eRead_71 rfl X.2.2.1 (by decide) rfl ?_
  refine j_goto K dX8_eRead_72 ?_
  exact j_sub [1, 0, 2] rfl (hk14 _ _ _ h)
def B_X8_eRead_38 (k14 : Hp → Int32 → Int32 → Option (Int32 × Hp)) (fu : Nat) (o : Nat) (S : Hp) (x2 : Int32) : Option (Int32 × Hp) :=
  (gI S (some o) 6 24).bind fun v40 =>
  if v40 = (1 : Int32) then
    (gI S (some o) 6 25).bind fun v50 =>
    B_X8_eRead_61 k14 fu o S x2 ((100000 : Int32) + v50) (some o)
  else
    (gI S (some o) 6 25).bind fun v58 =>
    B_X8_eRead_61 k14 fu o S x2 v58 (some o)
set_option maxRecDepth 100000 in
set_option maxHeartbeats 4000000 in
theorem w_X8_eRead_38 {E : Cx} {l : Launch} {res : Int32 × Hp} {ad : Nat → Nat} {k14 : Hp → Int32 → Int32 → Option (Int32 × Hp)} {fu : Nat} {o : Nat} {S : Hp} {x2 : Int32} (K : Kx E cX8_eRead RX8 (rmd 3 0 0)) (X : Bx E l yX8_eRead 4 (some .boolean) 0 0 ad (QI res)) (hk14 : ∀ (S : Hp) (x1 : Int32) (x2 : Int32), k14 S x1 x2 = some res → J E 0 0 14 [(0, vR (some o)), (1, vI x1), (2, vI x2)] [] S ad) (h : B_X8_eRead_38 k14 fu o S x2 = some res) : J E 0 0 38 [(0, vR (some o)), (2, vI x2)] [] S ad := by
  refine j_aload_n K dX8_eRead_38 rfl 0 rfl ?_
  refine j_aload_n K dX8_eRead_39 rfl 0 rfl ?_
  obtain ⟨v40, e40, h⟩ := bd h
  refine fgX8_120 K dX8_eRead_40 e40 ?_
  refine j_iconst (v := (1 : Int32)) K dX8_eRead_43 (by decide) ?_
  refine j_icmp_ne K dX8_eRead_44 (fun c44 => ?_) (fun c44 => ?_)
  · replace h := ie c44 h
    refine j_aload_n K dX8_eRead_57 rfl 0 rfl ?_
    obtain ⟨v58, e58, h⟩ := bd h
    refine fgX8_123 K dX8_eRead_58 e58 ?_
    exact w_X8_eRead_61 K X hk14 h
  · replace h := it c44 h
    refine j_ldc K dX8_eRead_47 z823 ?_
    refine j_aload_n K dX8_eRead_49 rfl 0 rfl ?_
    obtain ⟨v50, e50, h⟩ := bd h
    refine fgX8_123 K dX8_eRead_50 e50 ?_
    refine j_iadd K dX8_eRead_53 ?_
    refine j_goto K dX8_eRead_54 ?_
    exact w_X8_eRead_61 K X hk14 h
def B_X8_eRead_99 (k14 : Hp → Int32 → Int32 → Option (Int32 × Hp)) (fu : Nat) (o : Nat) (S : Hp) (x1 : Int32) : Option (Int32 × Hp) :=
  (gI S (some o) 6 24).bind fun v100 =>
  if v100 = (45 : Int32) then
    (ob S 6 (some o)).bind fun _ =>
    b2 (F_X8_opensOne S o (19 : Int32)) fun v111 S111 =>
    if v111 = 0 then
      zb (0 : Int32) S111
    else
      k14 S111 x1 (0 : Int32)
  else
    (gI S (some o) 6 24).bind fun v125 =>
    if v125 = (40 : Int32) then
      (ob S 6 (some o)).bind fun _ =>
      b2 (F_X8_opensOne S o (0 : Int32)) fun v135 S135 =>
      if v135 = 0 then
        zb (0 : Int32) S135
      else
        k14 S135 x1 (1 : Int32)
    else
      zb (0 : Int32) S
set_option maxRecDepth 100000 in
set_option maxHeartbeats 4000000 in
theorem w_X8_eRead_99 {E : Cx} {l : Launch} {res : Int32 × Hp} {ad : Nat → Nat} {k14 : Hp → Int32 → Int32 → Option (Int32 × Hp)} {fu : Nat} {o : Nat} {S : Hp} {x1 : Int32} (K : Kx E cX8_eRead RX8 (rmd 3 0 0)) (X : Bx E l yX8_eRead 4 (some .boolean) 0 0 ad (QI res)) (hk14 : ∀ (S : Hp) (x1 : Int32) (x2 : Int32), k14 S x1 x2 = some res → J E 0 0 14 [(0, vR (some o)), (1, vI x1), (2, vI x2)] [] S ad) (h : B_X8_eRead_99 k14 fu o S x1 = some res) : J E 0 0 99 [(0, vR (some o)), (1, vI x1)] [] S ad := by
  refine j_aload_n K dX8_eRead_99 rfl 0 rfl ?_
  obtain ⟨v100, e100, h⟩ := bd h
  refine fgX8_120 K dX8_eRead_100 e100 ?_
  refine j_bipush (v := (45 : Int32)) K dX8_eRead_103 (by decide) ?_
  refine j_icmp_ne K dX8_eRead_105 (fun c105 => ?_) (fun c105 => ?_)
  · replace h := ie c105 h
    refine j_aload_n K dX8_eRead_124 rfl 0 rfl ?_
    obtain ⟨v125, e125, h⟩ := bd h
    refine fgX8_120 K dX8_eRead_125 e125 ?_
    refine j_bipush (v := (40 : Int32)) K dX8_eRead_128 (by decide) ?_
    refine j_icmp_ne K dX8_eRead_130 (fun c130 => ?_) (fun c130 => ?_)
    · replace h := ie c130 h
      refine j_iconst (v := (0 : Int32)) K dX8_eRead_148 (by decide) ?_
      exact j_zret K X dX8_eRead_149 h
    · replace h := it c130 h
      refine j_aload_n K dX8_eRead_133 rfl 0 rfl ?_
      refine j_iconst (v := (0 : Int32)) K dX8_eRead_134 (by decide) ?_
      obtain ⟨w135, ew135, h⟩ := bd h
      have ho135 := obS ew135
      obtain ⟨v135, S135, e135, h⟩ := bd2 h
      refine j_cI (st := []) K (r_V (vs := [vI (0 : Int32)]) (n := 1) (o := o) K (c_X8_opensOne e135) ho135 (by decide) rfl dX8_eRead_135 z835 z837 zs29 z13 z838 ⟨zd_X8_opensOne, rfl, rfl, rfl, ⟨Nat.le_of_ble_eq_true rfl, Nat.le_of_ble_eq_true rfl⟩, Nat.le_of_ble_eq_true rfl, Nat.le_of_ble_eq_true rfl, Nat.le_of_ble_eq_true rfl⟩) rfl ?_
      refine j_if_ne K dX8_eRead_138 (fun c138 => ?_) (fun c138 => ?_)
      · replace h := ie c138 h
        refine j_iconst (v := (1 : Int32)) K dX8_eRead_143 (by decide) ?_
        refine j_istore_n (lv' := [(2, vI (1 : Int32)), (0, vR (some o)), (1, vI x1)]) K dX8_eRead_144 rfl X.2.2.1 (by decide) rfl ?_
        refine j_goto K dX8_eRead_145 ?_
        exact j_sub [1, 2, 0] rfl (hk14 _ _ _ h)
      · replace h := it c138 h
        refine j_iconst (v := (0 : Int32)) K dX8_eRead_141 (by decide) ?_
        exact j_zret K X dX8_eRead_142 h
  · replace h := it c105 h
    refine j_aload_n K dX8_eRead_108 rfl 0 rfl ?_
    refine j_bipush (v := (19 : Int32)) K dX8_eRead_109 (by decide) ?_
    obtain ⟨w111, ew111, h⟩ := bd h
    have ho111 := obS ew111
    obtain ⟨v111, S111, e111, h⟩ := bd2 h
    refine j_cI (st := []) K (r_V (vs := [vI (19 : Int32)]) (n := 1) (o := o) K (c_X8_opensOne e111) ho111 (by decide) rfl dX8_eRead_111 z835 z837 zs29 z13 z838 ⟨zd_X8_opensOne, rfl, rfl, rfl, ⟨Nat.le_of_ble_eq_true rfl, Nat.le_of_ble_eq_true rfl⟩, Nat.le_of_ble_eq_true rfl, Nat.le_of_ble_eq_true rfl, Nat.le_of_ble_eq_true rfl⟩) rfl ?_
    refine j_if_ne K dX8_eRead_114 (fun c114 => ?_) (fun c114 => ?_)
    · replace h := ie c114 h
      refine j_iconst (v := (0 : Int32)) K dX8_eRead_119 (by decide) ?_
      refine j_istore_n (lv' := [(2, vI (0 : Int32)), (0, vR (some o)), (1, vI x1)]) K dX8_eRead_120 rfl X.2.2.1 (by decide) rfl ?_
      refine j_goto K dX8_eRead_121 ?_
      exact j_sub [1, 2, 0] rfl (hk14 _ _ _ h)
    · replace h := it c114 h
      refine j_iconst (v := (0 : Int32)) K dX8_eRead_117 (by decide) ?_
      exact j_zret K X dX8_eRead_118 h
def B_X8_eRead_176 (fu : Nat) (o : Nat) (S : Hp) (s0 : Int32) : Option (Int32 × Hp) :=
  zb s0 S
set_option maxRecDepth 100000 in
set_option maxHeartbeats 4000000 in
theorem w_X8_eRead_176 {E : Cx} {l : Launch} {res : Int32 × Hp} {ad : Nat → Nat} {fu : Nat} {o : Nat} {S : Hp} {s0 : Int32} (K : Kx E cX8_eRead RX8 (rmd 3 0 0)) (X : Bx E l yX8_eRead 4 (some .boolean) 0 0 ad (QI res)) (h : B_X8_eRead_176 fu o S s0 = some res) : J E 0 0 176 [] [vI s0] S ad := by
  exact j_zret K X dX8_eRead_176 h
def B_X8_eRead_247 (fu : Nat) (o : Nat) (S : Hp) : Option (Int32 × Hp) :=
  zb (0 : Int32) S
set_option maxRecDepth 100000 in
set_option maxHeartbeats 4000000 in
theorem w_X8_eRead_247 {E : Cx} {l : Launch} {res : Int32 × Hp} {ad : Nat → Nat} {fu : Nat} {o : Nat} {S : Hp} (K : Kx E cX8_eRead RX8 (rmd 3 0 0)) (X : Bx E l yX8_eRead 4 (some .boolean) 0 0 ad (QI res)) (h : B_X8_eRead_247 fu o S = some res) : J E 0 0 247 [] [] S ad := by
  refine j_iconst (v := (0 : Int32)) K dX8_eRead_247 (by decide) ?_
  exact j_zret K X dX8_eRead_248 h
def B_X8_eRead_262 (k14 : Hp → Int32 → Int32 → Option (Int32 × Hp)) (fu : Nat) (o : Nat) (S : Hp) (x1 : Int32) (s0 : Int32) : Option (Int32 × Hp) :=
  k14 S x1 s0
set_option maxRecDepth 100000 in
set_option maxHeartbeats 4000000 in
theorem w_X8_eRead_262 {E : Cx} {l : Launch} {res : Int32 × Hp} {ad : Nat → Nat} {k14 : Hp → Int32 → Int32 → Option (Int32 × Hp)} {fu : Nat} {o : Nat} {S : Hp} {x1 : Int32} {s0 : Int32} (K : Kx E cX8_eRead RX8 (rmd 3 0 0)) (X : Bx E l yX8_eRead 4 (some .boolean) 0 0 ad (QI res)) (hk14 : ∀ (S : Hp) (x1 : Int32) (x2 : Int32), k14 S x1 x2 = some res → J E 0 0 14 [(0, vR (some o)), (1, vI x1), (2, vI x2)] [] S ad) (h : B_X8_eRead_262 k14 fu o S x1 s0 = some res) : J E 0 0 262 [(0, vR (some o)), (1, vI x1)] [vI s0] S ad := by
  refine j_istore_n (lv' := [(2, vI s0), (0, vR (some o)), (1, vI x1)]) K dX8_eRead_262 rfl X.2.2.1 (by decide) rfl ?_
  refine j_goto K dX8_eRead_263 ?_
  exact j_sub [1, 2, 0] rfl (hk14 _ _ _ h)
def L_X8_eRead_14 (k14 : Hp → Int32 → Int32 → Option (Int32 × Hp)) (fu : Nat) (o : Nat) (S : Hp) (x1 : Int32) (x2 : Int32) : Option (Int32 × Hp) :=
  (ob S 6 (some o)).bind fun _ =>
  (F_X8_next fu S o).bind fun S15 =>
  if x1 = 0 then
    (gI S15 (some o) 6 24).bind fun v151 =>
    if v151 = (59 : Int32) then
      (ob S15 6 (some o)).bind fun _ =>
      (F_X8_unwinds fu S15 o (1 : Int32)).bind fun S161 =>
      (gI S161 (some o) 6 28).bind fun v165 =>
      if v165 = 0 then
        B_X8_eRead_176 fu o S161 (1 : Int32)
      else
        B_X8_eRead_176 fu o S161 (0 : Int32)
    else
      (gI S15 (some o) 6 24).bind fun v178 =>
      if v178 = (41 : Int32) then
        (ob S15 6 (some o)).bind fun _ =>
        (F_X8_unwinds fu S15 o (1 : Int32)).bind fun S188 =>
        (gI S188 (some o) 6 28).bind fun v192 =>
        if v192 = 0 then
          zb (0 : Int32) S188
        else
          (gI S188 (some o) 6 28).bind fun v202 =>
          (pI S188 (some o) 6 28 (v202 - (1 : Int32))).bind fun S207 =>
          (gI S207 (some o) 6 29).bind fun v212 =>
          (pI S207 (some o) 6 29 (v212 - (1 : Int32))).bind fun S217 =>
          (ob S217 6 (some o)).bind fun _ =>
          (F_X8_unwinds fu S217 o (7 : Int32)).bind fun S223 =>
          k14 S223 x1 x2
      else
        (ob S15 6 (some o)).bind fun _ =>
        b2 (F_X8_signOf S15 o) fun v230 S230 =>
        if v230 = (-1 : Int32) then
          B_X8_eRead_247 fu o S230
        else
          (ob S230 6 (some o)).bind fun _ =>
          b2 (F_X8_between fu S230 o v230) fun v241 S241 =>
          if v241 = 0 then
            B_X8_eRead_247 fu o S241
          else
            if (12 : Int32) < v230 then
              B_X8_eRead_262 k14 fu o S241 (1 : Int32) (0 : Int32)
            else
              B_X8_eRead_262 k14 fu o S241 (1 : Int32) (1 : Int32)
  else
    (gI S15 (some o) 6 24).bind fun v23 =>
    if v23 = (1 : Int32) then
      B_X8_eRead_38 k14 fu o S15 x2
    else
      (gI S15 (some o) 6 24).bind fun v31 =>
      if v31 = (2 : Int32) then
        B_X8_eRead_38 k14 fu o S15 x2
      else
        (gI S15 (some o) 6 24).bind fun v76 =>
        if v76 = (6 : Int32) then
          if x2 = 0 then
            B_X8_eRead_99 k14 fu o S15 x1
          else
            (ob S15 6 (some o)).bind fun _ =>
            b2 (F_X8_opensOne S15 o (13 : Int32)) fun v91 S91 =>
            if v91 = 0 then
              zb (0 : Int32) S91
            else
              k14 S91 x1 x2
        else
          B_X8_eRead_99 k14 fu o S15 x1
set_option maxRecDepth 100000 in
set_option maxHeartbeats 4000000 in
theorem wl_X8_eRead_14 {E : Cx} {l : Launch} {res : Int32 × Hp} {ad : Nat → Nat} {k14 : Hp → Int32 → Int32 → Option (Int32 × Hp)} {fu : Nat} {o : Nat} {S : Hp} {x1 : Int32} {x2 : Int32} (K : Kx E cX8_eRead RX8 (rmd 3 0 0)) (X : Bx E l yX8_eRead 4 (some .boolean) 0 0 ad (QI res)) (hk14 : ∀ (S : Hp) (x1 : Int32) (x2 : Int32), k14 S x1 x2 = some res → J E 0 0 14 [(0, vR (some o)), (1, vI x1), (2, vI x2)] [] S ad) (h : L_X8_eRead_14 k14 fu o S x1 x2 = some res) : J E 0 0 14 [(0, vR (some o)), (1, vI x1), (2, vI x2)] [] S ad := by
  refine j_aload_n K dX8_eRead_14 rfl 0 rfl ?_
  obtain ⟨w15, ew15, h⟩ := bd h
  have ho15 := obS ew15
  obtain ⟨S15, e15, h⟩ := bd h
  refine j_cV (st := []) K (r_V (vs := []) (n := 0) (o := o) K (c_X8_next e15) ho15 (by decide) rfl dX8_eRead_15 z808 z810 zs24 z13 z811 ⟨zd_X8_next, rfl, rfl, rfl, ⟨Nat.le_of_ble_eq_true rfl, Nat.le_of_ble_eq_true rfl⟩, Nat.le_of_ble_eq_true rfl, Nat.le_of_ble_eq_true rfl, Nat.le_of_ble_eq_true rfl⟩) rfl ?_
  refine j_iload_n K dX8_eRead_18 rfl 1 rfl ?_
  refine j_if_eq K dX8_eRead_19 (fun c19 => ?_) (fun c19 => ?_)
  · replace h := it c19 h
    refine j_aload_n K dX8_eRead_150 rfl 0 rfl ?_
    obtain ⟨v151, e151, h⟩ := bd h
    refine fgX8_120 K dX8_eRead_151 e151 ?_
    refine j_bipush (v := (59 : Int32)) K dX8_eRead_154 (by decide) ?_
    refine j_icmp_ne K dX8_eRead_156 (fun c156 => ?_) (fun c156 => ?_)
    · replace h := ie c156 h
      refine j_aload_n K dX8_eRead_177 rfl 0 rfl ?_
      obtain ⟨v178, e178, h⟩ := bd h
      refine fgX8_120 K dX8_eRead_178 e178 ?_
      refine j_bipush (v := (41 : Int32)) K dX8_eRead_181 (by decide) ?_
      refine j_icmp_ne K dX8_eRead_183 (fun c183 => ?_) (fun c183 => ?_)
      · replace h := ie c183 h
        refine j_aload_n K dX8_eRead_229 rfl 0 rfl ?_
        obtain ⟨w230, ew230, h⟩ := bd h
        have ho230 := obS ew230
        obtain ⟨v230, S230, e230, h⟩ := bd2 h
        refine j_cI (st := []) K (r_V (vs := []) (n := 0) (o := o) K (c_X8_signOf e230) ho230 (by decide) rfl dX8_eRead_230 z843 z845 zs31 z13 z846 ⟨zd_X8_signOf, rfl, rfl, rfl, ⟨Nat.le_of_ble_eq_true rfl, Nat.le_of_ble_eq_true rfl⟩, Nat.le_of_ble_eq_true rfl, Nat.le_of_ble_eq_true rfl, Nat.le_of_ble_eq_true rfl⟩) rfl ?_
        refine j_istore_n (lv' := [(3, vI v230), (0, vR (some o)), (1, vI x1), (2, vI x2)]) K dX8_eRead_233 rfl X.2.2.1 (by decide) rfl ?_
        refine j_iload_n K dX8_eRead_234 rfl 0 rfl ?_
        refine j_iconst (v := (-1 : Int32)) K dX8_eRead_235 (by decide) ?_
        refine j_icmp_eq K dX8_eRead_236 (fun c236 => ?_) (fun c236 => ?_)
        · replace h := it c236 h
          exact j_sub [] rfl (w_X8_eRead_247 K X h)
        · replace h := ie c236 h
          refine j_aload_n K dX8_eRead_239 rfl 1 rfl ?_
          refine j_iload_n K dX8_eRead_240 rfl 0 rfl ?_
          obtain ⟨w241, ew241, h⟩ := bd h
          have ho241 := obS ew241
          obtain ⟨v241, S241, e241, h⟩ := bd2 h
          refine j_cI (st := []) K (r_V (vs := [vI v230]) (n := 1) (o := o) K (c_X8_between e241) ho241 (by decide) rfl dX8_eRead_241 z847 z849 zs32 z13 z850 ⟨zd_X8_between, rfl, rfl, rfl, ⟨Nat.le_of_ble_eq_true rfl, Nat.le_of_ble_eq_true rfl⟩, Nat.le_of_ble_eq_true rfl, Nat.le_of_ble_eq_true rfl, Nat.le_of_ble_eq_true rfl⟩) rfl ?_
          refine j_if_ne K dX8_eRead_244 (fun c244 => ?_) (fun c244 => ?_)
          · replace h := ie c244 h
            refine j_iconst (v := (1 : Int32)) K dX8_eRead_249 (by decide) ?_
            refine j_istore_n (lv' := [(1, vI (1 : Int32)), (3, vI v230), (0, vR (some o)), (2, vI x2)]) K dX8_eRead_250 rfl X.2.2.1 (by decide) rfl ?_
            refine j_iload_n K dX8_eRead_251 rfl 1 rfl ?_
            refine j_bipush (v := (12 : Int32)) K dX8_eRead_252 (by decide) ?_
            refine j_icmp_gt K dX8_eRead_254 (fun c254 => ?_) (fun c254 => ?_)
            · replace h := it c254 h
              refine j_iconst (v := (0 : Int32)) K dX8_eRead_261 (by decide) ?_
              exact j_sub [2, 0] rfl (w_X8_eRead_262 K X hk14 h)
            · replace h := ie c254 h
              refine j_iconst (v := (1 : Int32)) K dX8_eRead_257 (by decide) ?_
              refine j_goto K dX8_eRead_258 ?_
              exact j_sub [2, 0] rfl (w_X8_eRead_262 K X hk14 h)
          · replace h := it c244 h
            exact j_sub [] rfl (w_X8_eRead_247 K X h)
      · replace h := it c183 h
        refine j_aload_n K dX8_eRead_186 rfl 0 rfl ?_
        refine j_iconst (v := (1 : Int32)) K dX8_eRead_187 (by decide) ?_
        obtain ⟨w188, ew188, h⟩ := bd h
        have ho188 := obS ew188
        obtain ⟨S188, e188, h⟩ := bd h
        refine j_cV (st := []) K (r_V (vs := [vI (1 : Int32)]) (n := 1) (o := o) K (c_X8_unwinds e188) ho188 (by decide) rfl dX8_eRead_188 z828 z830 zs28 z13 z831 ⟨zd_X8_unwinds, rfl, rfl, rfl, ⟨Nat.le_of_ble_eq_true rfl, Nat.le_of_ble_eq_true rfl⟩, Nat.le_of_ble_eq_true rfl, Nat.le_of_ble_eq_true rfl, Nat.le_of_ble_eq_true rfl⟩) rfl ?_
        refine j_aload_n K dX8_eRead_191 rfl 0 rfl ?_
        obtain ⟨v192, e192, h⟩ := bd h
        refine fgX8_133 K dX8_eRead_192 e192 ?_
        refine j_if_ne K dX8_eRead_195 (fun c195 => ?_) (fun c195 => ?_)
        · replace h := ie c195 h
          refine j_aload_n K dX8_eRead_200 rfl 0 rfl ?_
          refine j_dup K dX8_eRead_201 rfl ?_
          obtain ⟨v202, e202, h⟩ := bd h
          refine fgX8_133 K dX8_eRead_202 e202 ?_
          refine j_iconst (v := (1 : Int32)) K dX8_eRead_205 (by decide) ?_
          refine j_isub K dX8_eRead_206 ?_
          obtain ⟨S207, e207, h⟩ := bd h
          refine fpX8_133 K dX8_eRead_207 e207 ?_
          refine j_aload_n K dX8_eRead_210 rfl 0 rfl ?_
          refine j_dup K dX8_eRead_211 rfl ?_
          obtain ⟨v212, e212, h⟩ := bd h
          refine fgX8_140 K dX8_eRead_212 e212 ?_
          refine j_iconst (v := (1 : Int32)) K dX8_eRead_215 (by decide) ?_
          refine j_isub K dX8_eRead_216 ?_
          obtain ⟨S217, e217, h⟩ := bd h
          refine fpX8_140 K dX8_eRead_217 e217 ?_
          refine j_aload_n K dX8_eRead_220 rfl 0 rfl ?_
          refine j_bipush (v := (7 : Int32)) K dX8_eRead_221 (by decide) ?_
          obtain ⟨w223, ew223, h⟩ := bd h
          have ho223 := obS ew223
          obtain ⟨S223, e223, h⟩ := bd h
          refine j_cV (st := []) K (r_V (vs := [vI (7 : Int32)]) (n := 1) (o := o) K (c_X8_unwinds e223) ho223 (by decide) rfl dX8_eRead_223 z828 z830 zs28 z13 z831 ⟨zd_X8_unwinds, rfl, rfl, rfl, ⟨Nat.le_of_ble_eq_true rfl, Nat.le_of_ble_eq_true rfl⟩, Nat.le_of_ble_eq_true rfl, Nat.le_of_ble_eq_true rfl, Nat.le_of_ble_eq_true rfl⟩) rfl ?_
          refine j_goto K dX8_eRead_226 ?_
          exact hk14 _ _ _ h
        · replace h := it c195 h
          refine j_iconst (v := (0 : Int32)) K dX8_eRead_198 (by decide) ?_
          exact j_zret K X dX8_eRead_199 h
    · replace h := it c156 h
      refine j_aload_n K dX8_eRead_159 rfl 0 rfl ?_
      refine j_iconst (v := (1 : Int32)) K dX8_eRead_160 (by decide) ?_
      obtain ⟨w161, ew161, h⟩ := bd h
      have ho161 := obS ew161
      obtain ⟨S161, e161, h⟩ := bd h
      refine j_cV (st := []) K (r_V (vs := [vI (1 : Int32)]) (n := 1) (o := o) K (c_X8_unwinds e161) ho161 (by decide) rfl dX8_eRead_161 z828 z830 zs28 z13 z831 ⟨zd_X8_unwinds, rfl, rfl, rfl, ⟨Nat.le_of_ble_eq_true rfl, Nat.le_of_ble_eq_true rfl⟩, Nat.le_of_ble_eq_true rfl, Nat.le_of_ble_eq_true rfl, Nat.le_of_ble_eq_true rfl⟩) rfl ?_
      refine j_aload_n K dX8_eRead_164 rfl 0 rfl ?_
      obtain ⟨v165, e165, h⟩ := bd h
      refine fgX8_133 K dX8_eRead_165 e165 ?_
      refine j_if_ne K dX8_eRead_168 (fun c168 => ?_) (fun c168 => ?_)
      · replace h := ie c168 h
        refine j_iconst (v := (0 : Int32)) K dX8_eRead_175 (by decide) ?_
        exact j_sub [] rfl (w_X8_eRead_176 K X h)
      · replace h := it c168 h
        refine j_iconst (v := (1 : Int32)) K dX8_eRead_171 (by decide) ?_
        refine j_goto K dX8_eRead_172 ?_
        exact j_sub [] rfl (w_X8_eRead_176 K X h)
  · replace h := ie c19 h
    refine j_aload_n K dX8_eRead_22 rfl 0 rfl ?_
    obtain ⟨v23, e23, h⟩ := bd h
    refine fgX8_120 K dX8_eRead_23 e23 ?_
    refine j_iconst (v := (1 : Int32)) K dX8_eRead_26 (by decide) ?_
    refine j_icmp_eq K dX8_eRead_27 (fun c27 => ?_) (fun c27 => ?_)
    · replace h := it c27 h
      exact j_sub [0, 2] rfl (w_X8_eRead_38 K X hk14 h)
    · replace h := ie c27 h
      refine j_aload_n K dX8_eRead_30 rfl 0 rfl ?_
      obtain ⟨v31, e31, h⟩ := bd h
      refine fgX8_120 K dX8_eRead_31 e31 ?_
      refine j_iconst (v := (2 : Int32)) K dX8_eRead_34 (by decide) ?_
      refine j_icmp_ne K dX8_eRead_35 (fun c35 => ?_) (fun c35 => ?_)
      · replace h := ie c35 h
        refine j_aload_n K dX8_eRead_75 rfl 0 rfl ?_
        obtain ⟨v76, e76, h⟩ := bd h
        refine fgX8_120 K dX8_eRead_76 e76 ?_
        refine j_bipush (v := (6 : Int32)) K dX8_eRead_79 (by decide) ?_
        refine j_icmp_ne K dX8_eRead_81 (fun c81 => ?_) (fun c81 => ?_)
        · replace h := ie c81 h
          exact j_sub [0, 1] rfl (w_X8_eRead_99 K X hk14 h)
        · replace h := it c81 h
          refine j_iload_n K dX8_eRead_84 rfl 2 rfl ?_
          refine j_if_eq K dX8_eRead_85 (fun c85 => ?_) (fun c85 => ?_)
          · replace h := it c85 h
            exact j_sub [0, 1] rfl (w_X8_eRead_99 K X hk14 h)
          · replace h := ie c85 h
            refine j_aload_n K dX8_eRead_88 rfl 0 rfl ?_
            refine j_bipush (v := (13 : Int32)) K dX8_eRead_89 (by decide) ?_
            obtain ⟨w91, ew91, h⟩ := bd h
            have ho91 := obS ew91
            obtain ⟨v91, S91, e91, h⟩ := bd2 h
            refine j_cI (st := []) K (r_V (vs := [vI (13 : Int32)]) (n := 1) (o := o) K (c_X8_opensOne e91) ho91 (by decide) rfl dX8_eRead_91 z835 z837 zs29 z13 z838 ⟨zd_X8_opensOne, rfl, rfl, rfl, ⟨Nat.le_of_ble_eq_true rfl, Nat.le_of_ble_eq_true rfl⟩, Nat.le_of_ble_eq_true rfl, Nat.le_of_ble_eq_true rfl, Nat.le_of_ble_eq_true rfl⟩) rfl ?_
            refine j_if_ne K dX8_eRead_94 (fun c94 => ?_) (fun c94 => ?_)
            · replace h := ie c94 h
              exact hk14 _ _ _ h
            · replace h := it c94 h
              refine j_iconst (v := (0 : Int32)) K dX8_eRead_97 (by decide) ?_
              exact j_zret K X dX8_eRead_98 h
      · replace h := it c35 h
        exact j_sub [0, 2] rfl (w_X8_eRead_38 K X hk14 h)
def B_X8_eRead_14 (fu : Nat) (o : Nat) : Nat → Hp → Int32 → Int32 → Option (Int32 × Hp)
  | 0 => fun _ _ _ => none
  | n + 1 => L_X8_eRead_14 (B_X8_eRead_14 fu o n) fu o
theorem w_X8_eRead_14 {E : Cx} {l : Launch} {res : Int32 × Hp} {ad : Nat → Nat} {fu : Nat} {o : Nat} (K : Kx E cX8_eRead RX8 (rmd 3 0 0)) (X : Bx E l yX8_eRead 4 (some .boolean) 0 0 ad (QI res)) : ∀ (n : Nat) (S : Hp) (x1 : Int32) (x2 : Int32), B_X8_eRead_14 fu o n S x1 x2 = some res → J E 0 0 14 [(0, vR (some o)), (1, vI x1), (2, vI x2)] [] S ad := by
  intro n
  induction n with
  | zero =>
    intro S x1 x2 h
    cases h
  | succ n ih =>
    intro S x1 x2 h
    exact wl_X8_eRead_14 K X ih h
def F_X8_eRead (fu : Nat) (S : Hp) (o : Nat) : Option (Int32 × Hp) :=
  (pI S (some o) 6 28 (0 : Int32)).bind fun S2 =>
  (pI S2 (some o) 6 29 (0 : Int32)).bind fun S7 =>
  B_X8_eRead_14 fu o fu S7 (1 : Int32) (1 : Int32)
set_option maxRecDepth 100000 in
set_option maxHeartbeats 4000000 in
theorem w_X8_eRead {E : Cx} {l : Launch} {res : Int32 × Hp} {ad : Nat → Nat} {fu : Nat} {S : Hp} {o : Nat} (K : Kx E cX8_eRead RX8 (rmd 3 0 0)) (X : Bx E l yX8_eRead 4 (some .boolean) 0 0 ad (QI res)) (h : F_X8_eRead fu S o = some res) : J E 0 0 0 [(0, vR (some o))] [] S ad := by
  refine j_aload_n K dX8_eRead_0 rfl 0 rfl ?_
  refine j_iconst (v := (0 : Int32)) K dX8_eRead_1 (by decide) ?_
  obtain ⟨S2, e2, h⟩ := bd h
  refine fpX8_133 K dX8_eRead_2 e2 ?_
  refine j_aload_n K dX8_eRead_5 rfl 0 rfl ?_
  refine j_iconst (v := (0 : Int32)) K dX8_eRead_6 (by decide) ?_
  obtain ⟨S7, e7, h⟩ := bd h
  refine fpX8_140 K dX8_eRead_7 e7 ?_
  refine j_iconst (v := (1 : Int32)) K dX8_eRead_10 (by decide) ?_
  refine j_istore_n (lv' := [(1, vI (1 : Int32)), (0, vR (some o))]) K dX8_eRead_11 rfl X.2.2.1 (by decide) rfl ?_
  refine j_iconst (v := (1 : Int32)) K dX8_eRead_12 (by decide) ?_
  refine j_istore_n (lv' := [(2, vI (1 : Int32)), (1, vI (1 : Int32)), (0, vR (some o))]) K dX8_eRead_13 rfl X.2.2.1 (by decide) rfl ?_
  exact j_sub [2, 1, 0] rfl (w_X8_eRead_14 K X _ _ _ _ h)
theorem c_X8_eRead {l : Launch} {fu : Nat} {S : Hp} {o : Nat} {res : Int32 × Hp} (h : F_X8_eRead fu S o = some res) : Ct l yX8_eRead cX8_eRead 4 (some .boolean) (rmd 3 0 0) 0 0 [vR (some o)] S (QI res) :=
  z_entry (by decide +kernel) (Nat.le_of_ble_eq_true rfl) (fun E ad K X => w_X8_eRead K X h)

theorem dX8_text_0 : decode cX8_text 0 = .ok (.aload_n 0, 1) ∧ 0 + 1 = 1 := ⟨by decide +kernel, rfl⟩
theorem dX8_text_1 : decode cX8_text 1 = .ok (.getfield 97, 3) ∧ 1 + 3 = 4 := ⟨by decide +kernel, rfl⟩
theorem dX8_text_4 : decode cX8_text 4 = .ok (.bipush 6, 2) ∧ 4 + 2 = 6 := ⟨by decide +kernel, rfl⟩
theorem dX8_text_6 : decode cX8_text 6 = .ok (.if_icmp .ne 6, 3) ∧ 6 + 3 = 9 ∧ ((6 : Nat) : Int) + (6) = ((12 : Nat) : Int) := ⟨by decide +kernel, rfl, by decide⟩
theorem dX8_text_9 : decode cX8_text 9 = .ok (.bipush (-4), 2) ∧ 9 + 2 = 11 := ⟨by decide +kernel, rfl⟩
theorem dX8_text_11 : decode cX8_text 11 = .ok (.ireturn, 1) := by decide +kernel
theorem dX8_text_12 : decode cX8_text 12 = .ok (.aload_n 0, 1) ∧ 12 + 1 = 13 := ⟨by decide +kernel, rfl⟩
theorem dX8_text_13 : decode cX8_text 13 = .ok (.iconst 0, 1) ∧ 13 + 1 = 14 := ⟨by decide +kernel, rfl⟩
theorem dX8_text_14 : decode cX8_text 14 = .ok (.putfield 114, 3) ∧ 14 + 3 = 17 := ⟨by decide +kernel, rfl⟩
theorem dX8_text_17 : decode cX8_text 17 = .ok (.aload_n 0, 1) ∧ 17 + 1 = 18 := ⟨by decide +kernel, rfl⟩
theorem dX8_text_18 : decode cX8_text 18 = .ok (.iconst 0, 1) ∧ 18 + 1 = 19 := ⟨by decide +kernel, rfl⟩
theorem dX8_text_19 : decode cX8_text 19 = .ok (.putfield 130, 3) ∧ 19 + 3 = 22 := ⟨by decide +kernel, rfl⟩
theorem dX8_text_22 : decode cX8_text 22 = .ok (.iconst 1, 1) ∧ 22 + 1 = 23 := ⟨by decide +kernel, rfl⟩
theorem dX8_text_23 : decode cX8_text 23 = .ok (.istore_n 1, 1) ∧ 23 + 1 = 24 := ⟨by decide +kernel, rfl⟩
theorem dX8_text_24 : decode cX8_text 24 = .ok (.iconst 0, 1) ∧ 24 + 1 = 25 := ⟨by decide +kernel, rfl⟩
theorem dX8_text_25 : decode cX8_text 25 = .ok (.istore_n 2, 1) ∧ 25 + 1 = 26 := ⟨by decide +kernel, rfl⟩
theorem dX8_text_26 : decode cX8_text 26 = .ok (.iload_n 2, 1) ∧ 26 + 1 = 27 := ⟨by decide +kernel, rfl⟩
theorem dX8_text_27 : decode cX8_text 27 = .ok (.iconst 3, 1) ∧ 27 + 1 = 28 := ⟨by decide +kernel, rfl⟩
theorem dX8_text_28 : decode cX8_text 28 = .ok (.if_icmp .ge 73, 3) ∧ 28 + 3 = 31 ∧ ((28 : Nat) : Int) + (73) = ((101 : Nat) : Int) := ⟨by decide +kernel, rfl, by decide⟩
theorem dX8_text_31 : decode cX8_text 31 = .ok (.iload_n 1, 1) ∧ 31 + 1 = 32 := ⟨by decide +kernel, rfl⟩
theorem dX8_text_32 : decode cX8_text 32 = .ok (.ifCond .eq 69, 3) ∧ 32 + 3 = 35 ∧ ((32 : Nat) : Int) + (69) = ((101 : Nat) : Int) := ⟨by decide +kernel, rfl, by decide⟩
theorem dX8_text_35 : decode cX8_text 35 = .ok (.aload_n 0, 1) ∧ 35 + 1 = 36 := ⟨by decide +kernel, rfl⟩
theorem dX8_text_36 : decode cX8_text 36 = .ok (.invokevirtual 152, 3) := by decide +kernel
theorem dX8_text_39 : decode cX8_text 39 = .ok (.aload_n 0, 1) ∧ 39 + 1 = 40 := ⟨by decide +kernel, rfl⟩
theorem dX8_text_40 : decode cX8_text 40 = .ok (.getfield 120, 3) ∧ 40 + 3 = 43 := ⟨by decide +kernel, rfl⟩
theorem dX8_text_43 : decode cX8_text 43 = .ok (.iconst 3, 1) ∧ 43 + 1 = 44 := ⟨by decide +kernel, rfl⟩
theorem dX8_text_44 : decode cX8_text 44 = .ok (.if_icmp .ne 15, 3) ∧ 44 + 3 = 47 ∧ ((44 : Nat) : Int) + (15) = ((59 : Nat) : Int) := ⟨by decide +kernel, rfl, by decide⟩
theorem dX8_text_47 : decode cX8_text 47 = .ok (.aload_n 0, 1) ∧ 47 + 1 = 48 := ⟨by decide +kernel, rfl⟩
theorem dX8_text_48 : decode cX8_text 48 = .ok (.getfield 123, 3) ∧ 48 + 3 = 51 := ⟨by decide +kernel, rfl⟩
theorem dX8_text_51 : decode cX8_text 51 = .ok (.iload_n 2, 1) ∧ 51 + 1 = 52 := ⟨by decide +kernel, rfl⟩
theorem dX8_text_52 : decode cX8_text 52 = .ok (.if_icmp .ne 7, 3) ∧ 52 + 3 = 55 ∧ ((52 : Nat) : Int) + (7) = ((59 : Nat) : Int) := ⟨by decide +kernel, rfl, by decide⟩
theorem dX8_text_55 : decode cX8_text 55 = .ok (.iconst 1, 1) ∧ 55 + 1 = 56 := ⟨by decide +kernel, rfl⟩
theorem dX8_text_56 : decode cX8_text 56 = .ok (.goto 4, 3) ∧ ((56 : Nat) : Int) + (4) = ((60 : Nat) : Int) := ⟨by decide +kernel, by decide⟩
theorem dX8_text_59 : decode cX8_text 59 = .ok (.iconst 0, 1) ∧ 59 + 1 = 60 := ⟨by decide +kernel, rfl⟩
theorem dX8_text_60 : decode cX8_text 60 = .ok (.istore_n 1, 1) ∧ 60 + 1 = 61 := ⟨by decide +kernel, rfl⟩
theorem dX8_text_61 : decode cX8_text 61 = .ok (.aload_n 0, 1) ∧ 61 + 1 = 62 := ⟨by decide +kernel, rfl⟩
theorem dX8_text_62 : decode cX8_text 62 = .ok (.getfield 34, 3) ∧ 62 + 3 = 65 := ⟨by decide +kernel, rfl⟩
theorem dX8_text_65 : decode cX8_text 65 = .ok (.iconst 4, 1) ∧ 65 + 1 = 66 := ⟨by decide +kernel, rfl⟩
theorem dX8_text_66 : decode cX8_text 66 = .ok (.aload_n 0, 1) ∧ 66 + 1 = 67 := ⟨by decide +kernel, rfl⟩
theorem dX8_text_67 : decode cX8_text 67 = .ok (.getfield 97, 3) ∧ 67 + 3 = 70 := ⟨by decide +kernel, rfl⟩
theorem dX8_text_70 : decode cX8_text 70 = .ok (.imul, 1) ∧ 70 + 1 = 71 := ⟨by decide +kernel, rfl⟩
theorem dX8_text_71 : decode cX8_text 71 = .ok (.iload_n 2, 1) ∧ 71 + 1 = 72 := ⟨by decide +kernel, rfl⟩
theorem dX8_text_72 : decode cX8_text 72 = .ok (.iadd, 1) ∧ 72 + 1 = 73 := ⟨by decide +kernel, rfl⟩
theorem dX8_text_73 : decode cX8_text 73 = .ok (.aload_n 0, 1) ∧ 73 + 1 = 74 := ⟨by decide +kernel, rfl⟩
theorem dX8_text_74 : decode cX8_text 74 = .ok (.getfield 130, 3) ∧ 74 + 3 = 77 := ⟨by decide +kernel, rfl⟩
theorem dX8_text_77 : decode cX8_text 77 = .ok (.iastore, 1) ∧ 77 + 1 = 78 := ⟨by decide +kernel, rfl⟩
theorem dX8_text_78 : decode cX8_text 78 = .ok (.iload_n 1, 1) ∧ 78 + 1 = 79 := ⟨by decide +kernel, rfl⟩
theorem dX8_text_79 : decode cX8_text 79 = .ok (.ifCond .eq 14, 3) ∧ 79 + 3 = 82 ∧ ((79 : Nat) : Int) + (14) = ((93 : Nat) : Int) := ⟨by decide +kernel, rfl, by decide⟩
theorem dX8_text_82 : decode cX8_text 82 = .ok (.aload_n 0, 1) ∧ 82 + 1 = 83 := ⟨by decide +kernel, rfl⟩
theorem dX8_text_83 : decode cX8_text 83 = .ok (.invokevirtual 165, 3) := by decide +kernel
theorem dX8_text_86 : decode cX8_text 86 = .ok (.ifCond .eq 7, 3) ∧ 86 + 3 = 89 ∧ ((86 : Nat) : Int) + (7) = ((93 : Nat) : Int) := ⟨by decide +kernel, rfl, by decide⟩
theorem dX8_text_89 : decode cX8_text 89 = .ok (.iconst 1, 1) ∧ 89 + 1 = 90 := ⟨by decide +kernel, rfl⟩
theorem dX8_text_90 : decode cX8_text 90 = .ok (.goto 4, 3) ∧ ((90 : Nat) : Int) + (4) = ((94 : Nat) : Int) := ⟨by decide +kernel, by decide⟩
theorem dX8_text_93 : decode cX8_text 93 = .ok (.iconst 0, 1) ∧ 93 + 1 = 94 := ⟨by decide +kernel, rfl⟩
theorem dX8_text_94 : decode cX8_text 94 = .ok (.istore_n 1, 1) ∧ 94 + 1 = 95 := ⟨by decide +kernel, rfl⟩
theorem dX8_text_95 : decode cX8_text 95 = .ok (.iinc 2 1, 3) ∧ 95 + 3 = 98 := ⟨by decide +kernel, rfl⟩
theorem dX8_text_98 : decode cX8_text 98 = .ok (.goto (-72), 3) ∧ ((98 : Nat) : Int) + (-72) = ((26 : Nat) : Int) := ⟨by decide +kernel, by decide⟩
theorem dX8_text_101 : decode cX8_text 101 = .ok (.iload_n 1, 1) ∧ 101 + 1 = 102 := ⟨by decide +kernel, rfl⟩
theorem dX8_text_102 : decode cX8_text 102 = .ok (.ifCond .eq 20, 3) ∧ 102 + 3 = 105 ∧ ((102 : Nat) : Int) + (20) = ((122 : Nat) : Int) := ⟨by decide +kernel, rfl, by decide⟩
theorem dX8_text_105 : decode cX8_text 105 = .ok (.aload_n 0, 1) ∧ 105 + 1 = 106 := ⟨by decide +kernel, rfl⟩
theorem dX8_text_106 : decode cX8_text 106 = .ok (.invokevirtual 152, 3) := by decide +kernel
theorem dX8_text_109 : decode cX8_text 109 = .ok (.aload_n 0, 1) ∧ 109 + 1 = 110 := ⟨by decide +kernel, rfl⟩
theorem dX8_text_110 : decode cX8_text 110 = .ok (.getfield 120, 3) ∧ 110 + 3 = 113 := ⟨by decide +kernel, rfl⟩
theorem dX8_text_113 : decode cX8_text 113 = .ok (.ifCond .ne 7, 3) ∧ 113 + 3 = 116 ∧ ((113 : Nat) : Int) + (7) = ((120 : Nat) : Int) := ⟨by decide +kernel, rfl, by decide⟩
theorem dX8_text_116 : decode cX8_text 116 = .ok (.iconst 1, 1) ∧ 116 + 1 = 117 := ⟨by decide +kernel, rfl⟩
theorem dX8_text_117 : decode cX8_text 117 = .ok (.goto 4, 3) ∧ ((117 : Nat) : Int) + (4) = ((121 : Nat) : Int) := ⟨by decide +kernel, by decide⟩
theorem dX8_text_120 : decode cX8_text 120 = .ok (.iconst 0, 1) ∧ 120 + 1 = 121 := ⟨by decide +kernel, rfl⟩
theorem dX8_text_121 : decode cX8_text 121 = .ok (.istore_n 1, 1) ∧ 121 + 1 = 122 := ⟨by decide +kernel, rfl⟩
theorem dX8_text_122 : decode cX8_text 122 = .ok (.aload_n 0, 1) ∧ 122 + 1 = 123 := ⟨by decide +kernel, rfl⟩
theorem dX8_text_123 : decode cX8_text 123 = .ok (.getfield 34, 3) ∧ 123 + 3 = 126 := ⟨by decide +kernel, rfl⟩
theorem dX8_text_126 : decode cX8_text 126 = .ok (.iconst 4, 1) ∧ 126 + 1 = 127 := ⟨by decide +kernel, rfl⟩
theorem dX8_text_127 : decode cX8_text 127 = .ok (.aload_n 0, 1) ∧ 127 + 1 = 128 := ⟨by decide +kernel, rfl⟩
theorem dX8_text_128 : decode cX8_text 128 = .ok (.getfield 97, 3) ∧ 128 + 3 = 131 := ⟨by decide +kernel, rfl⟩
theorem dX8_text_131 : decode cX8_text 131 = .ok (.imul, 1) ∧ 131 + 1 = 132 := ⟨by decide +kernel, rfl⟩
theorem dX8_text_132 : decode cX8_text 132 = .ok (.iconst 3, 1) ∧ 132 + 1 = 133 := ⟨by decide +kernel, rfl⟩
theorem dX8_text_133 : decode cX8_text 133 = .ok (.iadd, 1) ∧ 133 + 1 = 134 := ⟨by decide +kernel, rfl⟩
theorem dX8_text_134 : decode cX8_text 134 = .ok (.aload_n 0, 1) ∧ 134 + 1 = 135 := ⟨by decide +kernel, rfl⟩
theorem dX8_text_135 : decode cX8_text 135 = .ok (.getfield 130, 3) ∧ 135 + 3 = 138 := ⟨by decide +kernel, rfl⟩
theorem dX8_text_138 : decode cX8_text 138 = .ok (.iastore, 1) ∧ 138 + 1 = 139 := ⟨by decide +kernel, rfl⟩
theorem dX8_text_139 : decode cX8_text 139 = .ok (.aload_n 0, 1) ∧ 139 + 1 = 140 := ⟨by decide +kernel, rfl⟩
theorem dX8_text_140 : decode cX8_text 140 = .ok (.iconst 0, 1) ∧ 140 + 1 = 141 := ⟨by decide +kernel, rfl⟩
theorem dX8_text_141 : decode cX8_text 141 = .ok (.putfield 76, 3) ∧ 141 + 3 = 144 := ⟨by decide +kernel, rfl⟩
theorem dX8_text_144 : decode cX8_text 144 = .ok (.iload_n 1, 1) ∧ 144 + 1 = 145 := ⟨by decide +kernel, rfl⟩
theorem dX8_text_145 : decode cX8_text 145 = .ok (.ifCond .ne 11, 3) ∧ 145 + 3 = 148 ∧ ((145 : Nat) : Int) + (11) = ((156 : Nat) : Int) := ⟨by decide +kernel, rfl, by decide⟩
theorem dX8_text_148 : decode cX8_text 148 = .ok (.bipush (-100), 2) ∧ 148 + 2 = 150 := ⟨by decide +kernel, rfl⟩
theorem dX8_text_150 : decode cX8_text 150 = .ok (.aload_n 0, 1) ∧ 150 + 1 = 151 := ⟨by decide +kernel, rfl⟩
theorem dX8_text_151 : decode cX8_text 151 = .ok (.getfield 117, 3) ∧ 151 + 3 = 154 := ⟨by decide +kernel, rfl⟩
theorem dX8_text_154 : decode cX8_text 154 = .ok (.isub, 1) ∧ 154 + 1 = 155 := ⟨by decide +kernel, rfl⟩
theorem dX8_text_155 : decode cX8_text 155 = .ok (.ireturn, 1) := by decide +kernel
theorem dX8_text_156 : decode cX8_text 156 = .ok (.aload_n 0, 1) ∧ 156 + 1 = 157 := ⟨by decide +kernel, rfl⟩
theorem dX8_text_157 : decode cX8_text 157 = .ok (.dup, 1) ∧ 157 + 1 = 158 := ⟨by decide +kernel, rfl⟩
theorem dX8_text_158 : decode cX8_text 158 = .ok (.getfield 97, 3) ∧ 158 + 3 = 161 := ⟨by decide +kernel, rfl⟩
theorem dX8_text_161 : decode cX8_text 161 = .ok (.iconst 1, 1) ∧ 161 + 1 = 162 := ⟨by decide +kernel, rfl⟩
theorem dX8_text_162 : decode cX8_text 162 = .ok (.iadd, 1) ∧ 162 + 1 = 163 := ⟨by decide +kernel, rfl⟩
theorem dX8_text_163 : decode cX8_text 163 = .ok (.putfield 97, 3) ∧ 163 + 3 = 166 := ⟨by decide +kernel, rfl⟩
theorem dX8_text_166 : decode cX8_text 166 = .ok (.aload_n 0, 1) ∧ 166 + 1 = 167 := ⟨by decide +kernel, rfl⟩
theorem dX8_text_167 : decode cX8_text 167 = .ok (.getfield 97, 3) ∧ 167 + 3 = 170 := ⟨by decide +kernel, rfl⟩
theorem dX8_text_170 : decode cX8_text 170 = .ok (.iconst 1, 1) ∧ 170 + 1 = 171 := ⟨by decide +kernel, rfl⟩
theorem dX8_text_171 : decode cX8_text 171 = .ok (.isub, 1) ∧ 171 + 1 = 172 := ⟨by decide +kernel, rfl⟩
theorem dX8_text_172 : decode cX8_text 172 = .ok (.ireturn, 1) := by decide +kernel
def B_X8_text_122 (fu : Nat) (o : Nat) (S : Hp) (x1 : Int32) : Option (Int32 × Hp) :=
  (gR S (some o) 6 12).bind fun v123 =>
  (gI S (some o) 6 13).bind fun v128 =>
  (gI S (some o) 6 30).bind fun v135 =>
  (aP S v123 (((4 : Int32) * v128) + (3 : Int32)) v135).bind fun S138 =>
  (pI S138 (some o) 6 10 (0 : Int32)).bind fun S141 =>
  if x1 = 0 then
    (gI S141 (some o) 6 23).bind fun v151 =>
    some (((-100 : Int32) - v151), S141)
  else
    (gI S141 (some o) 6 13).bind fun v158 =>
    (pI S141 (some o) 6 13 (v158 + (1 : Int32))).bind fun S163 =>
    (gI S163 (some o) 6 13).bind fun v167 =>
    some ((v167 - (1 : Int32)), S163)
set_option maxRecDepth 100000 in
set_option maxHeartbeats 4000000 in
theorem w_X8_text_122 {E : Cx} {l : Launch} {res : Int32 × Hp} {ad : Nat → Nat} {fu : Nat} {o : Nat} {S : Hp} {x1 : Int32} (K : Kx E cX8_text RX8 (rmd 4 0 0)) (X : Bx E l yX8_text 3 (some .int) 0 0 ad (QI res)) (h : B_X8_text_122 fu o S x1 = some res) : J E 0 0 122 [(0, vR (some o)), (1, vI x1)] [] S ad := by
  refine j_aload_n K dX8_text_122 rfl 0 rfl ?_
  obtain ⟨v123, e123, h⟩ := bd h
  refine fgX8_34 K dX8_text_123 e123 ?_
  refine j_iconst (v := (4 : Int32)) K dX8_text_126 (by decide) ?_
  refine j_aload_n K dX8_text_127 rfl 0 rfl ?_
  obtain ⟨v128, e128, h⟩ := bd h
  refine fgX8_97 K dX8_text_128 e128 ?_
  refine j_imul K dX8_text_131 ?_
  refine j_iconst (v := (3 : Int32)) K dX8_text_132 (by decide) ?_
  refine j_iadd K dX8_text_133 ?_
  refine j_aload_n K dX8_text_134 rfl 0 rfl ?_
  obtain ⟨v135, e135, h⟩ := bd h
  refine fgX8_130 K dX8_text_135 e135 ?_
  obtain ⟨S138, e138, h⟩ := bd h
  refine j_aP K dX8_text_138 e138 ?_
  refine j_aload_n K dX8_text_139 rfl 0 rfl ?_
  refine j_iconst (v := (0 : Int32)) K dX8_text_140 (by decide) ?_
  obtain ⟨S141, e141, h⟩ := bd h
  refine fpX8_76 K dX8_text_141 e141 ?_
  refine j_iload_n K dX8_text_144 rfl 1 rfl ?_
  refine j_if_ne K dX8_text_145 (fun c145 => ?_) (fun c145 => ?_)
  · replace h := ie c145 h
    refine j_aload_n K dX8_text_156 rfl 0 rfl ?_
    refine j_dup K dX8_text_157 rfl ?_
    obtain ⟨v158, e158, h⟩ := bd h
    refine fgX8_97 K dX8_text_158 e158 ?_
    refine j_iconst (v := (1 : Int32)) K dX8_text_161 (by decide) ?_
    refine j_iadd K dX8_text_162 ?_
    obtain ⟨S163, e163, h⟩ := bd h
    refine fpX8_97 K dX8_text_163 e163 ?_
    refine j_aload_n K dX8_text_166 rfl 0 rfl ?_
    obtain ⟨v167, e167, h⟩ := bd h
    refine fgX8_97 K dX8_text_167 e167 ?_
    refine j_iconst (v := (1 : Int32)) K dX8_text_170 (by decide) ?_
    refine j_isub K dX8_text_171 ?_
    exact j_iret K X dX8_text_172 h
  · replace h := it c145 h
    refine j_bipush (v := (-100 : Int32)) K dX8_text_148 (by decide) ?_
    refine j_aload_n K dX8_text_150 rfl 0 rfl ?_
    obtain ⟨v151, e151, h⟩ := bd h
    refine fgX8_117 K dX8_text_151 e151 ?_
    refine j_isub K dX8_text_154 ?_
    exact j_iret K X dX8_text_155 h
def B_X8_text_121 (fu : Nat) (o : Nat) (S : Hp) (s0 : Int32) : Option (Int32 × Hp) :=
  B_X8_text_122 fu o S s0
set_option maxRecDepth 100000 in
set_option maxHeartbeats 4000000 in
theorem w_X8_text_121 {E : Cx} {l : Launch} {res : Int32 × Hp} {ad : Nat → Nat} {fu : Nat} {o : Nat} {S : Hp} {s0 : Int32} (K : Kx E cX8_text RX8 (rmd 4 0 0)) (X : Bx E l yX8_text 3 (some .int) 0 0 ad (QI res)) (h : B_X8_text_121 fu o S s0 = some res) : J E 0 0 121 [(0, vR (some o))] [vI s0] S ad := by
  refine j_istore_n (lv' := [(1, vI s0), (0, vR (some o))]) K dX8_text_121 rfl X.2.2.1 (by decide) rfl ?_
  exact j_sub [1, 0] rfl (w_X8_text_122 K X h)
def B_X8_text_101 (fu : Nat) (o : Nat) (S : Hp) (x1 : Int32) : Option (Int32 × Hp) :=
  if x1 = 0 then
    B_X8_text_122 fu o S x1
  else
    (ob S 6 (some o)).bind fun _ =>
    (F_X8_next fu S o).bind fun S106 =>
    (gI S106 (some o) 6 24).bind fun v110 =>
    if v110 = 0 then
      B_X8_text_121 fu o S106 (1 : Int32)
    else
      B_X8_text_121 fu o S106 (0 : Int32)
set_option maxRecDepth 100000 in
set_option maxHeartbeats 4000000 in
theorem w_X8_text_101 {E : Cx} {l : Launch} {res : Int32 × Hp} {ad : Nat → Nat} {fu : Nat} {o : Nat} {S : Hp} {x1 : Int32} (K : Kx E cX8_text RX8 (rmd 4 0 0)) (X : Bx E l yX8_text 3 (some .int) 0 0 ad (QI res)) (h : B_X8_text_101 fu o S x1 = some res) : J E 0 0 101 [(0, vR (some o)), (1, vI x1)] [] S ad := by
  refine j_iload_n K dX8_text_101 rfl 1 rfl ?_
  refine j_if_eq K dX8_text_102 (fun c102 => ?_) (fun c102 => ?_)
  · replace h := it c102 h
    exact w_X8_text_122 K X h
  · replace h := ie c102 h
    refine j_aload_n K dX8_text_105 rfl 0 rfl ?_
    obtain ⟨w106, ew106, h⟩ := bd h
    have ho106 := obS ew106
    obtain ⟨S106, e106, h⟩ := bd h
    refine j_cV (st := []) K (r_V (vs := []) (n := 0) (o := o) K (c_X8_next e106) ho106 (by decide) rfl dX8_text_106 z808 z810 zs24 z13 z811 ⟨zd_X8_next, rfl, rfl, rfl, ⟨Nat.le_of_ble_eq_true rfl, Nat.le_of_ble_eq_true rfl⟩, Nat.le_of_ble_eq_true rfl, Nat.le_of_ble_eq_true rfl, Nat.le_of_ble_eq_true rfl⟩) rfl ?_
    refine j_aload_n K dX8_text_109 rfl 0 rfl ?_
    obtain ⟨v110, e110, h⟩ := bd h
    refine fgX8_120 K dX8_text_110 e110 ?_
    refine j_if_ne K dX8_text_113 (fun c113 => ?_) (fun c113 => ?_)
    · replace h := ie c113 h
      refine j_iconst (v := (0 : Int32)) K dX8_text_120 (by decide) ?_
      exact j_sub [0] rfl (w_X8_text_121 K X h)
    · replace h := it c113 h
      refine j_iconst (v := (1 : Int32)) K dX8_text_116 (by decide) ?_
      refine j_goto K dX8_text_117 ?_
      exact j_sub [0] rfl (w_X8_text_121 K X h)
def B_X8_text_94 (k26 : Hp → Int32 → Int32 → Option (Int32 × Hp)) (fu : Nat) (o : Nat) (S : Hp) (x2 : Int32) (s0 : Int32) : Option (Int32 × Hp) :=
  k26 S s0 (x2 + (1 : Int32))
set_option maxRecDepth 100000 in
set_option maxHeartbeats 4000000 in
theorem w_X8_text_94 {E : Cx} {l : Launch} {res : Int32 × Hp} {ad : Nat → Nat} {k26 : Hp → Int32 → Int32 → Option (Int32 × Hp)} {fu : Nat} {o : Nat} {S : Hp} {x2 : Int32} {s0 : Int32} (K : Kx E cX8_text RX8 (rmd 4 0 0)) (X : Bx E l yX8_text 3 (some .int) 0 0 ad (QI res)) (hk26 : ∀ (S : Hp) (x1 : Int32) (x2 : Int32), k26 S x1 x2 = some res → J E 0 0 26 [(0, vR (some o)), (1, vI x1), (2, vI x2)] [] S ad) (h : B_X8_text_94 k26 fu o S x2 s0 = some res) : J E 0 0 94 [(0, vR (some o)), (2, vI x2)] [vI s0] S ad := by
  refine j_istore_n (lv' := [(1, vI s0), (0, vR (some o)), (2, vI x2)]) K dX8_text_94 rfl X.2.2.1 (by decide) rfl ?_
  refine j_iinc (q := 2) (v := (x2 + (1 : Int32))) (lv' := [(2, vI (x2 + (1 : Int32))), (1, vI s0), (0, vR (some o))]) K dX8_text_95 rfl rfl X.2.2.1 (by decide) rfl ?_
  refine j_goto K dX8_text_98 ?_
  exact j_sub [2, 1, 0] rfl (hk26 _ _ _ h)
def B_X8_text_93 (k26 : Hp → Int32 → Int32 → Option (Int32 × Hp)) (fu : Nat) (o : Nat) (S : Hp) (x2 : Int32) : Option (Int32 × Hp) :=
  B_X8_text_94 k26 fu o S x2 (0 : Int32)
set_option maxRecDepth 100000 in
set_option maxHeartbeats 4000000 in
theorem w_X8_text_93 {E : Cx} {l : Launch} {res : Int32 × Hp} {ad : Nat → Nat} {k26 : Hp → Int32 → Int32 → Option (Int32 × Hp)} {fu : Nat} {o : Nat} {S : Hp} {x2 : Int32} (K : Kx E cX8_text RX8 (rmd 4 0 0)) (X : Bx E l yX8_text 3 (some .int) 0 0 ad (QI res)) (hk26 : ∀ (S : Hp) (x1 : Int32) (x2 : Int32), k26 S x1 x2 = some res → J E 0 0 26 [(0, vR (some o)), (1, vI x1), (2, vI x2)] [] S ad) (h : B_X8_text_93 k26 fu o S x2 = some res) : J E 0 0 93 [(0, vR (some o)), (2, vI x2)] [] S ad := by
  refine j_iconst (v := (0 : Int32)) K dX8_text_93 (by decide) ?_
  exact w_X8_text_94 K X hk26 h
def B_X8_text_60 (k26 : Hp → Int32 → Int32 → Option (Int32 × Hp)) (fu : Nat) (o : Nat) (S : Hp) (x2 : Int32) (s0 : Int32) : Option (Int32 × Hp) :=
  (gR S (some o) 6 12).bind fun v62 =>
  (gI S (some o) 6 13).bind fun v67 =>
  (gI S (some o) 6 30).bind fun v74 =>
  (aP S v62 (((4 : Int32) * v67) + x2) v74).bind fun S77 =>
  if s0 = 0 then
    B_X8_text_93 k26 fu o S77 x2
  else
    (ob S77 6 (some o)).bind fun _ =>
    b2 (F_X8_eRead fu S77 o) fun v83 S83 =>
    if v83 = 0 then
      B_X8_text_93 k26 fu o S83 x2
    else
      B_X8_text_94 k26 fu o S83 x2 (1 : Int32)
set_option maxRecDepth 100000 in
set_option maxHeartbeats 4000000 in
theorem w_X8_text_60 {E : Cx} {l : Launch} {res : Int32 × Hp} {ad : Nat → Nat} {k26 : Hp → Int32 → Int32 → Option (Int32 × Hp)} {fu : Nat} {o : Nat} {S : Hp} {x2 : Int32} {s0 : Int32} (K : Kx E cX8_text RX8 (rmd 4 0 0)) (X : Bx E l yX8_text 3 (some .int) 0 0 ad (QI res)) (hk26 : ∀ (S : Hp) (x1 : Int32) (x2 : Int32), k26 S x1 x2 = some res → J E 0 0 26 [(0, vR (some o)), (1, vI x1), (2, vI x2)] [] S ad) (h : B_X8_text_60 k26 fu o S x2 s0 = some res) : J E 0 0 60 [(0, vR (some o)), (2, vI x2)] [vI s0] S ad := by
  refine j_istore_n (lv' := [(1, vI s0), (0, vR (some o)), (2, vI x2)]) K dX8_text_60 rfl X.2.2.1 (by decide) rfl ?_
  refine j_aload_n K dX8_text_61 rfl 1 rfl ?_
  obtain ⟨v62, e62, h⟩ := bd h
  refine fgX8_34 K dX8_text_62 e62 ?_
  refine j_iconst (v := (4 : Int32)) K dX8_text_65 (by decide) ?_
  refine j_aload_n K dX8_text_66 rfl 1 rfl ?_
  obtain ⟨v67, e67, h⟩ := bd h
  refine fgX8_97 K dX8_text_67 e67 ?_
  refine j_imul K dX8_text_70 ?_
  refine j_iload_n K dX8_text_71 rfl 2 rfl ?_
  refine j_iadd K dX8_text_72 ?_
  refine j_aload_n K dX8_text_73 rfl 1 rfl ?_
  obtain ⟨v74, e74, h⟩ := bd h
  refine fgX8_130 K dX8_text_74 e74 ?_
  obtain ⟨S77, e77, h⟩ := bd h
  refine j_aP K dX8_text_77 e77 ?_
  refine j_iload_n K dX8_text_78 rfl 0 rfl ?_
  refine j_if_eq K dX8_text_79 (fun c79 => ?_) (fun c79 => ?_)
  · replace h := it c79 h
    exact j_sub [1, 2] rfl (w_X8_text_93 K X hk26 h)
  · replace h := ie c79 h
    refine j_aload_n K dX8_text_82 rfl 1 rfl ?_
    obtain ⟨w83, ew83, h⟩ := bd h
    have ho83 := obS ew83
    obtain ⟨v83, S83, e83, h⟩ := bd2 h
    refine j_cI (st := []) K (r_V (vs := []) (n := 0) (o := o) K (c_X8_eRead e83) ho83 (by decide) rfl dX8_text_83 z819 z821 zs26 z13 z822 ⟨zd_X8_eRead, rfl, rfl, rfl, ⟨Nat.le_of_ble_eq_true rfl, Nat.le_of_ble_eq_true rfl⟩, Nat.le_of_ble_eq_true rfl, Nat.le_of_ble_eq_true rfl, Nat.le_of_ble_eq_true rfl⟩) rfl ?_
    refine j_if_eq K dX8_text_86 (fun c86 => ?_) (fun c86 => ?_)
    · replace h := it c86 h
      exact j_sub [1, 2] rfl (w_X8_text_93 K X hk26 h)
    · replace h := ie c86 h
      refine j_iconst (v := (1 : Int32)) K dX8_text_89 (by decide) ?_
      refine j_goto K dX8_text_90 ?_
      exact j_sub [1, 2] rfl (w_X8_text_94 K X hk26 h)
def B_X8_text_59 (k26 : Hp → Int32 → Int32 → Option (Int32 × Hp)) (fu : Nat) (o : Nat) (S : Hp) (x2 : Int32) : Option (Int32 × Hp) :=
  B_X8_text_60 k26 fu o S x2 (0 : Int32)
set_option maxRecDepth 100000 in
set_option maxHeartbeats 4000000 in
theorem w_X8_text_59 {E : Cx} {l : Launch} {res : Int32 × Hp} {ad : Nat → Nat} {k26 : Hp → Int32 → Int32 → Option (Int32 × Hp)} {fu : Nat} {o : Nat} {S : Hp} {x2 : Int32} (K : Kx E cX8_text RX8 (rmd 4 0 0)) (X : Bx E l yX8_text 3 (some .int) 0 0 ad (QI res)) (hk26 : ∀ (S : Hp) (x1 : Int32) (x2 : Int32), k26 S x1 x2 = some res → J E 0 0 26 [(0, vR (some o)), (1, vI x1), (2, vI x2)] [] S ad) (h : B_X8_text_59 k26 fu o S x2 = some res) : J E 0 0 59 [(0, vR (some o)), (2, vI x2)] [] S ad := by
  refine j_iconst (v := (0 : Int32)) K dX8_text_59 (by decide) ?_
  exact w_X8_text_60 K X hk26 h
def L_X8_text_26 (k26 : Hp → Int32 → Int32 → Option (Int32 × Hp)) (fu : Nat) (o : Nat) (S : Hp) (x1 : Int32) (x2 : Int32) : Option (Int32 × Hp) :=
  if (3 : Int32) ≤ x2 then
    B_X8_text_101 fu o S x1
  else
    if x1 = 0 then
      B_X8_text_101 fu o S x1
    else
      (ob S 6 (some o)).bind fun _ =>
      (F_X8_next fu S o).bind fun S36 =>
      (gI S36 (some o) 6 24).bind fun v40 =>
      if v40 = (3 : Int32) then
        (gI S36 (some o) 6 25).bind fun v48 =>
        if v48 = x2 then
          B_X8_text_60 k26 fu o S36 x2 (1 : Int32)
        else
          B_X8_text_59 k26 fu o S36 x2
      else
        B_X8_text_59 k26 fu o S36 x2
set_option maxRecDepth 100000 in
set_option maxHeartbeats 4000000 in
theorem wl_X8_text_26 {E : Cx} {l : Launch} {res : Int32 × Hp} {ad : Nat → Nat} {k26 : Hp → Int32 → Int32 → Option (Int32 × Hp)} {fu : Nat} {o : Nat} {S : Hp} {x1 : Int32} {x2 : Int32} (K : Kx E cX8_text RX8 (rmd 4 0 0)) (X : Bx E l yX8_text 3 (some .int) 0 0 ad (QI res)) (hk26 : ∀ (S : Hp) (x1 : Int32) (x2 : Int32), k26 S x1 x2 = some res → J E 0 0 26 [(0, vR (some o)), (1, vI x1), (2, vI x2)] [] S ad) (h : L_X8_text_26 k26 fu o S x1 x2 = some res) : J E 0 0 26 [(0, vR (some o)), (1, vI x1), (2, vI x2)] [] S ad := by
  refine j_iload_n K dX8_text_26 rfl 2 rfl ?_
  refine j_iconst (v := (3 : Int32)) K dX8_text_27 (by decide) ?_
  refine j_icmp_ge K dX8_text_28 (fun c28 => ?_) (fun c28 => ?_)
  · replace h := it c28 h
    exact j_sub [0, 1] rfl (w_X8_text_101 K X h)
  · replace h := ie c28 h
    refine j_iload_n K dX8_text_31 rfl 1 rfl ?_
    refine j_if_eq K dX8_text_32 (fun c32 => ?_) (fun c32 => ?_)
    · replace h := it c32 h
      exact j_sub [0, 1] rfl (w_X8_text_101 K X h)
    · replace h := ie c32 h
      refine j_aload_n K dX8_text_35 rfl 0 rfl ?_
      obtain ⟨w36, ew36, h⟩ := bd h
      have ho36 := obS ew36
      obtain ⟨S36, e36, h⟩ := bd h
      refine j_cV (st := []) K (r_V (vs := []) (n := 0) (o := o) K (c_X8_next e36) ho36 (by decide) rfl dX8_text_36 z808 z810 zs24 z13 z811 ⟨zd_X8_next, rfl, rfl, rfl, ⟨Nat.le_of_ble_eq_true rfl, Nat.le_of_ble_eq_true rfl⟩, Nat.le_of_ble_eq_true rfl, Nat.le_of_ble_eq_true rfl, Nat.le_of_ble_eq_true rfl⟩) rfl ?_
      refine j_aload_n K dX8_text_39 rfl 0 rfl ?_
      obtain ⟨v40, e40, h⟩ := bd h
      refine fgX8_120 K dX8_text_40 e40 ?_
      refine j_iconst (v := (3 : Int32)) K dX8_text_43 (by decide) ?_
      refine j_icmp_ne K dX8_text_44 (fun c44 => ?_) (fun c44 => ?_)
      · replace h := ie c44 h
        exact j_sub [0, 2] rfl (w_X8_text_59 K X hk26 h)
      · replace h := it c44 h
        refine j_aload_n K dX8_text_47 rfl 0 rfl ?_
        obtain ⟨v48, e48, h⟩ := bd h
        refine fgX8_123 K dX8_text_48 e48 ?_
        refine j_iload_n K dX8_text_51 rfl 2 rfl ?_
        refine j_icmp_ne K dX8_text_52 (fun c52 => ?_) (fun c52 => ?_)
        · replace h := ie c52 h
          exact j_sub [0, 2] rfl (w_X8_text_59 K X hk26 h)
        · replace h := it c52 h
          refine j_iconst (v := (1 : Int32)) K dX8_text_55 (by decide) ?_
          refine j_goto K dX8_text_56 ?_
          exact j_sub [0, 2] rfl (w_X8_text_60 K X hk26 h)
def B_X8_text_26 (fu : Nat) (o : Nat) : Nat → Hp → Int32 → Int32 → Option (Int32 × Hp)
  | 0 => fun _ _ _ => none
  | n + 1 => L_X8_text_26 (B_X8_text_26 fu o n) fu o
theorem w_X8_text_26 {E : Cx} {l : Launch} {res : Int32 × Hp} {ad : Nat → Nat} {fu : Nat} {o : Nat} (K : Kx E cX8_text RX8 (rmd 4 0 0)) (X : Bx E l yX8_text 3 (some .int) 0 0 ad (QI res)) : ∀ (n : Nat) (S : Hp) (x1 : Int32) (x2 : Int32), B_X8_text_26 fu o n S x1 x2 = some res → J E 0 0 26 [(0, vR (some o)), (1, vI x1), (2, vI x2)] [] S ad := by
  intro n
  induction n with
  | zero =>
    intro S x1 x2 h
    cases h
  | succ n ih =>
    intro S x1 x2 h
    exact wl_X8_text_26 K X ih h
def F_X8_text (fu : Nat) (S : Hp) (o : Nat) : Option (Int32 × Hp) :=
  (gI S (some o) 6 13).bind fun v1 =>
  if v1 = (6 : Int32) then
    some ((-4 : Int32), S)
  else
    (pI S (some o) 6 22 (0 : Int32)).bind fun S14 =>
    (pI S14 (some o) 6 30 (0 : Int32)).bind fun S19 =>
    B_X8_text_26 fu o fu S19 (1 : Int32) (0 : Int32)
set_option maxRecDepth 100000 in
set_option maxHeartbeats 4000000 in
theorem w_X8_text {E : Cx} {l : Launch} {res : Int32 × Hp} {ad : Nat → Nat} {fu : Nat} {S : Hp} {o : Nat} (K : Kx E cX8_text RX8 (rmd 4 0 0)) (X : Bx E l yX8_text 3 (some .int) 0 0 ad (QI res)) (h : F_X8_text fu S o = some res) : J E 0 0 0 [(0, vR (some o))] [] S ad := by
  refine j_aload_n K dX8_text_0 rfl 0 rfl ?_
  obtain ⟨v1, e1, h⟩ := bd h
  refine fgX8_97 K dX8_text_1 e1 ?_
  refine j_bipush (v := (6 : Int32)) K dX8_text_4 (by decide) ?_
  refine j_icmp_ne K dX8_text_6 (fun c6 => ?_) (fun c6 => ?_)
  · replace h := ie c6 h
    refine j_aload_n K dX8_text_12 rfl 0 rfl ?_
    refine j_iconst (v := (0 : Int32)) K dX8_text_13 (by decide) ?_
    obtain ⟨S14, e14, h⟩ := bd h
    refine fpX8_114 K dX8_text_14 e14 ?_
    refine j_aload_n K dX8_text_17 rfl 0 rfl ?_
    refine j_iconst (v := (0 : Int32)) K dX8_text_18 (by decide) ?_
    obtain ⟨S19, e19, h⟩ := bd h
    refine fpX8_130 K dX8_text_19 e19 ?_
    refine j_iconst (v := (1 : Int32)) K dX8_text_22 (by decide) ?_
    refine j_istore_n (lv' := [(1, vI (1 : Int32)), (0, vR (some o))]) K dX8_text_23 rfl X.2.2.1 (by decide) rfl ?_
    refine j_iconst (v := (0 : Int32)) K dX8_text_24 (by decide) ?_
    refine j_istore_n (lv' := [(2, vI (0 : Int32)), (1, vI (1 : Int32)), (0, vR (some o))]) K dX8_text_25 rfl X.2.2.1 (by decide) rfl ?_
    exact j_sub [2, 1, 0] rfl (w_X8_text_26 K X _ _ _ _ h)
  · replace h := it c6 h
    refine j_bipush (v := (-4 : Int32)) K dX8_text_9 (by decide) ?_
    exact j_iret K X dX8_text_11 h
theorem c_X8_text {l : Launch} {fu : Nat} {S : Hp} {o : Nat} {res : Int32 × Hp} (h : F_X8_text fu S o = some res) : Ct l yX8_text cX8_text 3 (some .int) (rmd 4 0 0) 0 0 [vR (some o)] S (QI res) :=
  z_entry (by decide +kernel) (Nat.le_of_ble_eq_true rfl) (fun E ad K X => w_X8_text K X h)
