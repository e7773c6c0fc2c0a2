theorem dX8_paysOf_0 : decode cX8_paysOf 0 = .ok (.aload_n 0, 1) ∧ 0 + 1 = 1 := ⟨by decide +kernel, rfl⟩
theorem dX8_paysOf_1 : decode cX8_paysOf 1 = .ok (.iconst 2, 1) ∧ 1 + 1 = 2 := ⟨by decide +kernel, rfl⟩
theorem dX8_paysOf_2 : decode cX8_paysOf 2 = .ok (.iload_n 1, 1) ∧ 2 + 1 = 3 := ⟨by decide +kernel, rfl⟩
theorem dX8_paysOf_3 : decode cX8_paysOf 3 = .ok (.iload_n 2, 1) ∧ 3 + 1 = 4 := ⟨by decide +kernel, rfl⟩
theorem dX8_paysOf_4 : decode cX8_paysOf 4 = .ok (.invokevirtual 185, 3) := by decide +kernel
theorem dX8_paysOf_7 : decode cX8_paysOf 7 = .ok (.istore_n 3, 1) ∧ 7 + 1 = 8 := ⟨by decide +kernel, rfl⟩
theorem dX8_paysOf_8 : decode cX8_paysOf 8 = .ok (.aload_n 0, 1) ∧ 8 + 1 = 9 := ⟨by decide +kernel, rfl⟩
theorem dX8_paysOf_9 : decode cX8_paysOf 9 = .ok (.getfield 7, 3) ∧ 9 + 3 = 12 := ⟨by decide +kernel, rfl⟩
theorem dX8_paysOf_12 : decode cX8_paysOf 12 = .ok (.iload_n 1, 1) ∧ 12 + 1 = 13 := ⟨by decide +kernel, rfl⟩
theorem dX8_paysOf_13 : decode cX8_paysOf 13 = .ok (.iaload, 1) ∧ 13 + 1 = 14 := ⟨by decide +kernel, rfl⟩
theorem dX8_paysOf_14 : decode cX8_paysOf 14 = .ok (.iconst 1, 1) ∧ 14 + 1 = 15 := ⟨by decide +kernel, rfl⟩
theorem dX8_paysOf_15 : decode cX8_paysOf 15 = .ok (.if_icmp .eq 13, 3) ∧ 15 + 3 = 18 ∧ ((15 : Nat) : Int) + (13) = ((28 : Nat) : Int) := ⟨by decide +kernel, rfl, by decide⟩
theorem dX8_paysOf_18 : decode cX8_paysOf 18 = .ok (.aload_n 0, 1) ∧ 18 + 1 = 19 := ⟨by decide +kernel, rfl⟩
theorem dX8_paysOf_19 : decode cX8_paysOf 19 = .ok (.getfield 7, 3) ∧ 19 + 3 = 22 := ⟨by decide +kernel, rfl⟩
theorem dX8_paysOf_22 : decode cX8_paysOf 22 = .ok (.iload_n 1, 1) ∧ 22 + 1 = 23 := ⟨by decide +kernel, rfl⟩
theorem dX8_paysOf_23 : decode cX8_paysOf 23 = .ok (.iaload, 1) ∧ 23 + 1 = 24 := ⟨by decide +kernel, rfl⟩
theorem dX8_paysOf_24 : decode cX8_paysOf 24 = .ok (.iconst 3, 1) ∧ 24 + 1 = 25 := ⟨by decide +kernel, rfl⟩
theorem dX8_paysOf_25 : decode cX8_paysOf 25 = .ok (.if_icmp .ne 7, 3) ∧ 25 + 3 = 28 ∧ ((25 : Nat) : Int) + (7) = ((32 : Nat) : Int) := ⟨by decide +kernel, rfl, by decide⟩
theorem dX8_paysOf_28 : decode cX8_paysOf 28 = .ok (.iconst 1, 1) ∧ 28 + 1 = 29 := ⟨by decide +kernel, rfl⟩
theorem dX8_paysOf_29 : decode cX8_paysOf 29 = .ok (.goto 27, 3) ∧ ((29 : Nat) : Int) + (27) = ((56 : Nat) : Int) := ⟨by decide +kernel, by decide⟩
theorem dX8_paysOf_32 : decode cX8_paysOf 32 = .ok (.aload_n 0, 1) ∧ 32 + 1 = 33 := ⟨by decide +kernel, rfl⟩
theorem dX8_paysOf_33 : decode cX8_paysOf 33 = .ok (.getfield 7, 3) ∧ 33 + 3 = 36 := ⟨by decide +kernel, rfl⟩
theorem dX8_paysOf_36 : decode cX8_paysOf 36 = .ok (.iload_n 1, 1) ∧ 36 + 1 = 37 := ⟨by decide +kernel, rfl⟩
theorem dX8_paysOf_37 : decode cX8_paysOf 37 = .ok (.iaload, 1) ∧ 37 + 1 = 38 := ⟨by decide +kernel, rfl⟩
theorem dX8_paysOf_38 : decode cX8_paysOf 38 = .ok (.iconst 4, 1) ∧ 38 + 1 = 39 := ⟨by decide +kernel, rfl⟩
theorem dX8_paysOf_39 : decode cX8_paysOf 39 = .ok (.if_icmp .ne 16, 3) ∧ 39 + 3 = 42 ∧ ((39 : Nat) : Int) + (16) = ((55 : Nat) : Int) := ⟨by decide +kernel, rfl, by decide⟩
theorem dX8_paysOf_42 : decode cX8_paysOf 42 = .ok (.iconst 3, 1) ∧ 42 + 1 = 43 := ⟨by decide +kernel, rfl⟩
theorem dX8_paysOf_43 : decode cX8_paysOf 43 = .ok (.iload_n 3, 1) ∧ 43 + 1 = 44 := ⟨by decide +kernel, rfl⟩
theorem dX8_paysOf_44 : decode cX8_paysOf 44 = .ok (.imul, 1) ∧ 44 + 1 = 45 := ⟨by decide +kernel, rfl⟩
theorem dX8_paysOf_45 : decode cX8_paysOf 45 = .ok (.aload_n 0, 1) ∧ 45 + 1 = 46 := ⟨by decide +kernel, rfl⟩
theorem dX8_paysOf_46 : decode cX8_paysOf 46 = .ok (.getfield 13, 3) ∧ 46 + 3 = 49 := ⟨by decide +kernel, rfl⟩
theorem dX8_paysOf_49 : decode cX8_paysOf 49 = .ok (.iload_n 1, 1) ∧ 49 + 1 = 50 := ⟨by decide +kernel, rfl⟩
theorem dX8_paysOf_50 : decode cX8_paysOf 50 = .ok (.iaload, 1) ∧ 50 + 1 = 51 := ⟨by decide +kernel, rfl⟩
theorem dX8_paysOf_51 : decode cX8_paysOf 51 = .ok (.iadd, 1) ∧ 51 + 1 = 52 := ⟨by decide +kernel, rfl⟩
theorem dX8_paysOf_52 : decode cX8_paysOf 52 = .ok (.goto 4, 3) ∧ ((52 : Nat) : Int) + (4) = ((56 : Nat) : Int) := ⟨by decide +kernel, by decide⟩
theorem dX8_paysOf_55 : decode cX8_paysOf 55 = .ok (.iload_n 3, 1) ∧ 55 + 1 = 56 := ⟨by decide +kernel, rfl⟩
theorem dX8_paysOf_56 : decode cX8_paysOf 56 = .ok (.ireturn, 1) := by decide +kernel
def B_X8_paysOf_56 (fu : Nat) (o : Nat) (S : Hp) (s0 : Int32) : Option (Int32 × Hp) :=
  some (s0, S)
set_option maxRecDepth 100000 in
set_option maxHeartbeats 4000000 in
theorem w_X8_paysOf_56 {E : Cx} {l : Launch} {res : Int32 × Hp} {ad : Nat → Nat} {fu : Nat} {o : Nat} {S : Hp} {s0 : Int32} (K : Kx E cX8_paysOf RX8 (rmd 3 0 0)) (X : Bx E l yX8_paysOf 4 (some .int) 0 0 ad (QI res)) (h : B_X8_paysOf_56 fu o S s0 = some res) : J E 0 0 56 [] [vI s0] S ad := by
  exact j_iret K X dX8_paysOf_56 h
def B_X8_paysOf_28 (fu : Nat) (o : Nat) (S : Hp) : Option (Int32 × Hp) :=
  B_X8_paysOf_56 fu o S (1 : Int32)
set_option maxRecDepth 100000 in
set_option maxHeartbeats 4000000 in
theorem w_X8_paysOf_28 {E : Cx} {l : Launch} {res : Int32 × Hp} {ad : Nat → Nat} {fu : Nat} {o : Nat} {S : Hp} (K : Kx E cX8_paysOf RX8 (rmd 3 0 0)) (X : Bx E l yX8_paysOf 4 (some .int) 0 0 ad (QI res)) (h : B_X8_paysOf_28 fu o S = some res) : J E 0 0 28 [] [] S ad := by
  refine j_iconst (v := (1 : Int32)) K dX8_paysOf_28 (by decide) ?_
  refine j_goto K dX8_paysOf_29 ?_
  exact w_X8_paysOf_56 K X h
def F_X8_paysOf (fu : Nat) (S : Hp) (o : Nat) (x1 : Int32) (x2 : Int32) : Option (Int32 × Hp) :=
  (ob S 6 (some o)).bind fun _ =>
  b2 (F_X8_asksOf fu S o (2 : Int32) x1 x2) fun v4 S4 =>
  (gR S4 (some o) 6 1).bind fun v9 =>
  (aG S4 v9 x1).bind fun v13 =>
  if v13 = (1 : Int32) then
    B_X8_paysOf_28 fu o S4
  else
    (gR S4 (some o) 6 1).bind fun v19 =>
    (aG S4 v19 x1).bind fun v23 =>
    if v23 = (3 : Int32) then
      B_X8_paysOf_28 fu o S4
    else
      (gR S4 (some o) 6 1).bind fun v33 =>
      (aG S4 v33 x1).bind fun v37 =>
      if v37 = (4 : Int32) then
        (gR S4 (some o) 6 2).bind fun v46 =>
        (aG S4 v46 x1).bind fun v50 =>
        B_X8_paysOf_56 fu o S4 (((3 : Int32) * v4) + v50)
      else
        B_X8_paysOf_56 fu o S4 v4
set_option maxRecDepth 100000 in
set_option maxHeartbeats 4000000 in
theorem w_X8_paysOf {E : Cx} {l : Launch} {res : Int32 × Hp} {ad : Nat → Nat} {fu : Nat} {S : Hp} {o : Nat} {x1 : Int32} {x2 : Int32} (K : Kx E cX8_paysOf RX8 (rmd 3 0 0)) (X : Bx E l yX8_paysOf 4 (some .int) 0 0 ad (QI res)) (h : F_X8_paysOf fu S o x1 x2 = some res) : J E 0 0 0 [(0, vR (some o)), (1, vI x1), (2, vI x2)] [] S ad := by
  refine j_aload_n K dX8_paysOf_0 rfl 0 rfl ?_
  refine j_iconst (v := (2 : Int32)) K dX8_paysOf_1 (by decide) ?_
  refine j_iload_n K dX8_paysOf_2 rfl 1 rfl ?_
  refine j_iload_n K dX8_paysOf_3 rfl 2 rfl ?_
  obtain ⟨w4, ew4, h⟩ := bd h
  have ho4 := obS ew4
  obtain ⟨v4, S4, e4, h⟩ := bd2 h
  refine j_cI (st := []) K (r_V (vs := [vI (2 : Int32), vI x1, vI x2]) (n := 3) (o := o) K (c_X8_asksOf e4) ho4 (by decide) rfl dX8_paysOf_4 z1007 z1009 zs36 z13 z1010 ⟨zd_X8_asksOf, rfl, rfl, rfl, ⟨Nat.le_of_ble_eq_true rfl, Nat.le_of_ble_eq_true rfl⟩, Nat.le_of_ble_eq_true rfl, Nat.le_of_ble_eq_true rfl, Nat.le_of_ble_eq_true rfl⟩) rfl ?_
  refine j_istore_n (lv' := [(3, vI v4), (0, vR (some o)), (1, vI x1), (2, vI x2)]) K dX8_paysOf_7 rfl X.2.2.1 (by decide) rfl ?_
  refine j_aload_n K dX8_paysOf_8 rfl 1 rfl ?_
  obtain ⟨v9, e9, h⟩ := bd h
  refine fgX8_7 K dX8_paysOf_9 e9 ?_
  refine j_iload_n K dX8_paysOf_12 rfl 2 rfl ?_
  obtain ⟨v13, e13, h⟩ := bd h
  refine j_aG K dX8_paysOf_13 e13 ?_
  refine j_iconst (v := (1 : Int32)) K dX8_paysOf_14 (by decide) ?_
  refine j_icmp_eq K dX8_paysOf_15 (fun c15 => ?_) (fun c15 => ?_)
  · replace h := it c15 h
    exact j_sub [] rfl (w_X8_paysOf_28 K X h)
  · replace h := ie c15 h
    refine j_aload_n K dX8_paysOf_18 rfl 1 rfl ?_
    obtain ⟨v19, e19, h⟩ := bd h
    refine fgX8_7 K dX8_paysOf_19 e19 ?_
    refine j_iload_n K dX8_paysOf_22 rfl 2 rfl ?_
    obtain ⟨v23, e23, h⟩ := bd h
    refine j_aG K dX8_paysOf_23 e23 ?_
    refine j_iconst (v := (3 : Int32)) K dX8_paysOf_24 (by decide) ?_
    refine j_icmp_ne K dX8_paysOf_25 (fun c25 => ?_) (fun c25 => ?_)
    · replace h := ie c25 h
      refine j_aload_n K dX8_paysOf_32 rfl 1 rfl ?_
      obtain ⟨v33, e33, h⟩ := bd h
      refine fgX8_7 K dX8_paysOf_33 e33 ?_
      refine j_iload_n K dX8_paysOf_36 rfl 2 rfl ?_
      obtain ⟨v37, e37, h⟩ := bd h
      refine j_aG K dX8_paysOf_37 e37 ?_
      refine j_iconst (v := (4 : Int32)) K dX8_paysOf_38 (by decide) ?_
      refine j_icmp_ne K dX8_paysOf_39 (fun c39 => ?_) (fun c39 => ?_)
      · replace h := ie c39 h
        refine j_iload_n K dX8_paysOf_55 rfl 0 rfl ?_
        exact j_sub [] rfl (w_X8_paysOf_56 K X h)
      · replace h := it c39 h
        refine j_iconst (v := (3 : Int32)) K dX8_paysOf_42 (by decide) ?_
        refine j_iload_n K dX8_paysOf_43 rfl 0 rfl ?_
        refine j_imul K dX8_paysOf_44 ?_
        refine j_aload_n K dX8_paysOf_45 rfl 1 rfl ?_
        obtain ⟨v46, e46, h⟩ := bd h
        refine fgX8_13 K dX8_paysOf_46 e46 ?_
        refine j_iload_n K dX8_paysOf_49 rfl 2 rfl ?_
        obtain ⟨v50, e50, h⟩ := bd h
        refine j_aG K dX8_paysOf_50 e50 ?_
        refine j_iadd K dX8_paysOf_51 ?_
        refine j_goto K dX8_paysOf_52 ?_
        exact j_sub [] rfl (w_X8_paysOf_56 K X h)
    · replace h := it c25 h
      exact j_sub [] rfl (w_X8_paysOf_28 K X h)
theorem c_X8_paysOf {l : Launch} {fu : Nat} {S : Hp} {o : Nat} {x1 : Int32} {x2 : Int32} {res : Int32 × Hp} (h : F_X8_paysOf fu S o x1 x2 = some res) : Ct l yX8_paysOf cX8_paysOf 4 (some .int) (rmd 3 0 0) 0 0 [vR (some o), vI x1, vI x2] S (QI res) :=
  z_entry (by decide +kernel) (Nat.le_of_ble_eq_true rfl) (fun E ad K X => w_X8_paysOf K X h)

theorem dX8_beatsOf_0 : decode cX8_beatsOf 0 = .ok (.iconst 0, 1) ∧ 0 + 1 = 1 := ⟨by decide +kernel, rfl⟩
theorem dX8_beatsOf_1 : decode cX8_beatsOf 1 = .ok (.istore_n 2, 1) ∧ 1 + 1 = 2 := ⟨by decide +kernel, rfl⟩
theorem dX8_beatsOf_2 : decode cX8_beatsOf 2 = .ok (.iconst 0, 1) ∧ 2 + 1 = 3 := ⟨by decide +kernel, rfl⟩
theorem dX8_beatsOf_3 : decode cX8_beatsOf 3 = .ok (.istore_n 3, 1) ∧ 3 + 1 = 4 := ⟨by decide +kernel, rfl⟩
theorem dX8_beatsOf_4 : decode cX8_beatsOf 4 = .ok (.iload_n 3, 1) ∧ 4 + 1 = 5 := ⟨by decide +kernel, rfl⟩
theorem dX8_beatsOf_5 : decode cX8_beatsOf 5 = .ok (.aload_n 0, 1) ∧ 5 + 1 = 6 := ⟨by decide +kernel, rfl⟩
theorem dX8_beatsOf_6 : decode cX8_beatsOf 6 = .ok (.getfield 91, 3) ∧ 6 + 3 = 9 := ⟨by decide +kernel, rfl⟩
theorem dX8_beatsOf_9 : decode cX8_beatsOf 9 = .ok (.if_icmp .ge 31, 3) ∧ 9 + 3 = 12 ∧ ((9 : Nat) : Int) + (31) = ((40 : Nat) : Int) := ⟨by decide +kernel, rfl, by decide⟩
theorem dX8_beatsOf_12 : decode cX8_beatsOf 12 = .ok (.iload_n 2, 1) ∧ 12 + 1 = 13 := ⟨by decide +kernel, rfl⟩
theorem dX8_beatsOf_13 : decode cX8_beatsOf 13 = .ok (.aload_n 0, 1) ∧ 13 + 1 = 14 := ⟨by decide +kernel, rfl⟩
theorem dX8_beatsOf_14 : decode cX8_beatsOf 14 = .ok (.iload_n 1, 1) ∧ 14 + 1 = 15 := ⟨by decide +kernel, rfl⟩
theorem dX8_beatsOf_15 : decode cX8_beatsOf 15 = .ok (.iload_n 3, 1) ∧ 15 + 1 = 16 := ⟨by decide +kernel, rfl⟩
theorem dX8_beatsOf_16 : decode cX8_beatsOf 16 = .ok (.invokevirtual 188, 3) := by decide +kernel
theorem dX8_beatsOf_19 : decode cX8_beatsOf 19 = .ok (.ifCond .eq 12, 3) ∧ 19 + 3 = 22 ∧ ((19 : Nat) : Int) + (12) = ((31 : Nat) : Int) := ⟨by decide +kernel, rfl, by decide⟩
theorem dX8_beatsOf_22 : decode cX8_beatsOf 22 = .ok (.aload_n 0, 1) ∧ 22 + 1 = 23 := ⟨by decide +kernel, rfl⟩
theorem dX8_beatsOf_23 : decode cX8_beatsOf 23 = .ok (.iload_n 1, 1) ∧ 23 + 1 = 24 := ⟨by decide +kernel, rfl⟩
theorem dX8_beatsOf_24 : decode cX8_beatsOf 24 = .ok (.iload_n 3, 1) ∧ 24 + 1 = 25 := ⟨by decide +kernel, rfl⟩
theorem dX8_beatsOf_25 : decode cX8_beatsOf 25 = .ok (.invokevirtual 199, 3) := by decide +kernel
theorem dX8_beatsOf_28 : decode cX8_beatsOf 28 = .ok (.goto 4, 3) ∧ ((28 : Nat) : Int) + (4) = ((32 : Nat) : Int) := ⟨by decide +kernel, by decide⟩
theorem dX8_beatsOf_31 : decode cX8_beatsOf 31 = .ok (.iconst 0, 1) ∧ 31 + 1 = 32 := ⟨by decide +kernel, rfl⟩
theorem dX8_beatsOf_32 : decode cX8_beatsOf 32 = .ok (.iadd, 1) ∧ 32 + 1 = 33 := ⟨by decide +kernel, rfl⟩
theorem dX8_beatsOf_33 : decode cX8_beatsOf 33 = .ok (.istore_n 2, 1) ∧ 33 + 1 = 34 := ⟨by decide +kernel, rfl⟩
theorem dX8_beatsOf_34 : decode cX8_beatsOf 34 = .ok (.iinc 3 1, 3) ∧ 34 + 3 = 37 := ⟨by decide +kernel, rfl⟩
theorem dX8_beatsOf_37 : decode cX8_beatsOf 37 = .ok (.goto (-33), 3) ∧ ((37 : Nat) : Int) + (-33) = ((4 : Nat) : Int) := ⟨by decide +kernel, by decide⟩
theorem dX8_beatsOf_40 : decode cX8_beatsOf 40 = .ok (.iload_n 2, 1) ∧ 40 + 1 = 41 := ⟨by decide +kernel, rfl⟩
theorem dX8_beatsOf_41 : decode cX8_beatsOf 41 = .ok (.ireturn, 1) := by decide +kernel
def B_X8_beatsOf_32 (k4 : Hp → Int32 → Int32 → Option (Int32 × Hp)) (fu : Nat) (o : Nat) (S : Hp) (x1 : Int32) (x3 : Int32) (s0 : Int32) (s1 : Int32) : Option (Int32 × Hp) :=
  k4 S (s1 + s0) (x3 + (1 : Int32))
set_option maxRecDepth 100000 in
set_option maxHeartbeats 4000000 in
theorem w_X8_beatsOf_32 {E : Cx} {l : Launch} {res : Int32 × Hp} {ad : Nat → Nat} {k4 : Hp → Int32 → Int32 → Option (Int32 × Hp)} {fu : Nat} {o : Nat} {S : Hp} {x1 : Int32} {x3 : Int32} {s0 : Int32} {s1 : Int32} (K : Kx E cX8_beatsOf RX8 (rmd 4 0 0)) (X : Bx E l yX8_beatsOf 4 (some .int) 0 0 ad (QI res)) (hk4 : ∀ (S : Hp) (x2 : Int32) (x3 : Int32), k4 S x2 x3 = some res → J E 0 0 4 [(0, vR (some o)), (1, vI x1), (2, vI x2), (3, vI x3)] [] S ad) (h : B_X8_beatsOf_32 k4 fu o S x1 x3 s0 s1 = some res) : J E 0 0 32 [(0, vR (some o)), (1, vI x1), (3, vI x3)] [vI s0, vI s1] S ad := by
  refine j_iadd K dX8_beatsOf_32 ?_
  refine j_istore_n (lv' := [(2, vI (s1 + s0)), (0, vR (some o)), (1, vI x1), (3, vI x3)]) K dX8_beatsOf_33 rfl X.2.2.1 (by decide) rfl ?_
  refine j_iinc (q := 3) (v := (x3 + (1 : Int32))) (lv' := [(3, vI (x3 + (1 : Int32))), (2, vI (s1 + s0)), (0, vR (some o)), (1, vI x1)]) K dX8_beatsOf_34 rfl rfl X.2.2.1 (by decide) rfl ?_
  refine j_goto K dX8_beatsOf_37 ?_
  exact j_sub [2, 3, 1, 0] rfl (hk4 _ _ _ h)
def L_X8_beatsOf_4 (k4 : Hp → Int32 → Int32 → Option (Int32 × Hp)) (fu : Nat) (o : Nat) (x1 : Int32) (S : Hp) (x2 : Int32) (x3 : Int32) : Option (Int32 × Hp) :=
  (gI S (some o) 6 7).bind fun v6 =>
  if v6 ≤ x3 then
    some (x2, S)
  else
    (ob S 6 (some o)).bind fun _ =>
    b2 (F_X8_did S o x1 x3) fun v16 S16 =>
    if v16 = 0 then
      B_X8_beatsOf_32 k4 fu o S16 x1 x3 (0 : Int32) x2
    else
      (ob S16 6 (some o)).bind fun _ =>
      b2 (F_X8_strokesOf fu S16 o x1 x3) fun v25 S25 =>
      B_X8_beatsOf_32 k4 fu o S25 x1 x3 v25 x2
set_option maxRecDepth 100000 in
set_option maxHeartbeats 4000000 in
theorem wl_X8_beatsOf_4 {E : Cx} {l : Launch} {res : Int32 × Hp} {ad : Nat → Nat} {k4 : Hp → Int32 → Int32 → Option (Int32 × Hp)} {fu : Nat} {o : Nat} {S : Hp} {x1 : Int32} {x2 : Int32} {x3 : Int32} (K : Kx E cX8_beatsOf RX8 (rmd 4 0 0)) (X : Bx E l yX8_beatsOf 4 (some .int) 0 0 ad (QI res)) (hk4 : ∀ (S : Hp) (x2 : Int32) (x3 : Int32), k4 S x2 x3 = some res → J E 0 0 4 [(0, vR (some o)), (1, vI x1), (2, vI x2), (3, vI x3)] [] S ad) (h : L_X8_beatsOf_4 k4 fu o x1 S x2 x3 = some res) : J E 0 0 4 [(0, vR (some o)), (1, vI x1), (2, vI x2), (3, vI x3)] [] S ad := by
  refine j_iload_n K dX8_beatsOf_4 rfl 3 rfl ?_
  refine j_aload_n K dX8_beatsOf_5 rfl 0 rfl ?_
  obtain ⟨v6, e6, h⟩ := bd h
  refine fgX8_91 K dX8_beatsOf_6 e6 ?_
  refine j_icmp_ge K dX8_beatsOf_9 (fun c9 => ?_) (fun c9 => ?_)
  · replace h := it c9 h
    refine j_iload_n K dX8_beatsOf_40 rfl 2 rfl ?_
    exact j_iret K X dX8_beatsOf_41 h
  · replace h := ie c9 h
    refine j_iload_n K dX8_beatsOf_12 rfl 2 rfl ?_
    refine j_aload_n K dX8_beatsOf_13 rfl 0 rfl ?_
    refine j_iload_n K dX8_beatsOf_14 rfl 1 rfl ?_
    refine j_iload_n K dX8_beatsOf_15 rfl 3 rfl ?_
    obtain ⟨w16, ew16, h⟩ := bd h
    have ho16 := obS ew16
    obtain ⟨v16, S16, e16, h⟩ := bd2 h
    refine j_cI (st := [vI x2]) K (r_V (vs := [vI x1, vI x3]) (n := 2) (o := o) K (c_X8_did e16) ho16 (by decide) rfl dX8_beatsOf_16 z1040 z1042 zs39 z13 z1043 ⟨zd_X8_did, rfl, rfl, rfl, ⟨Nat.le_of_ble_eq_true rfl, Nat.le_of_ble_eq_true rfl⟩, Nat.le_of_ble_eq_true rfl, Nat.le_of_ble_eq_true rfl, Nat.le_of_ble_eq_true rfl⟩) rfl ?_
    refine j_if_eq K dX8_beatsOf_19 (fun c19 => ?_) (fun c19 => ?_)
    · replace h := it c19 h
      refine j_iconst (v := (0 : Int32)) K dX8_beatsOf_31 (by decide) ?_
      exact j_sub [0, 1, 3] rfl (w_X8_beatsOf_32 K X hk4 h)
    · replace h := ie c19 h
      refine j_aload_n K dX8_beatsOf_22 rfl 0 rfl ?_
      refine j_iload_n K dX8_beatsOf_23 rfl 1 rfl ?_
      refine j_iload_n K dX8_beatsOf_24 rfl 3 rfl ?_
      obtain ⟨w25, ew25, h⟩ := bd h
      have ho25 := obS ew25
      obtain ⟨v25, S25, e25, h⟩ := bd2 h
      refine j_cI (st := [vI x2]) K (r_V (vs := [vI x1, vI x3]) (n := 2) (o := o) K (c_X8_strokesOf e25) ho25 (by decide) rfl dX8_beatsOf_25 z1056 z1058 zs42 z13 z1059 ⟨zd_X8_strokesOf, rfl, rfl, rfl, ⟨Nat.le_of_ble_eq_true rfl, Nat.le_of_ble_eq_true rfl⟩, Nat.le_of_ble_eq_true rfl, Nat.le_of_ble_eq_true rfl, Nat.le_of_ble_eq_true rfl⟩) rfl ?_
      refine j_goto K dX8_beatsOf_28 ?_
      exact j_sub [0, 1, 3] rfl (w_X8_beatsOf_32 K X hk4 h)
def B_X8_beatsOf_4 (fu : Nat) (o : Nat) (x1 : Int32) : Nat → Hp → Int32 → Int32 → Option (Int32 × Hp)
  | 0 => fun _ _ _ => none
  | n + 1 => L_X8_beatsOf_4 (B_X8_beatsOf_4 fu o x1 n) fu o x1
theorem w_X8_beatsOf_4 {E : Cx} {l : Launch} {res : Int32 × Hp} {ad : Nat → Nat} {fu : Nat} {o : Nat} {x1 : Int32} (K : Kx E cX8_beatsOf RX8 (rmd 4 0 0)) (X : Bx E l yX8_beatsOf 4 (some .int) 0 0 ad (QI res)) : ∀ (n : Nat) (S : Hp) (x2 : Int32) (x3 : Int32), B_X8_beatsOf_4 fu o x1 n S x2 x3 = some res → J E 0 0 4 [(0, vR (some o)), (1, vI x1), (2, vI x2), (3, vI x3)] [] S ad := by
  intro n
  induction n with
  | zero =>
    intro S x2 x3 h
    cases h
  | succ n ih =>
    intro S x2 x3 h
    exact wl_X8_beatsOf_4 K X ih h
def F_X8_beatsOf (fu : Nat) (S : Hp) (o : Nat) (x1 : Int32) : Option (Int32 × Hp) :=
  B_X8_beatsOf_4 fu o x1 fu S (0 : Int32) (0 : Int32)
set_option maxRecDepth 100000 in
set_option maxHeartbeats 4000000 in
theorem w_X8_beatsOf {E : Cx} {l : Launch} {res : Int32 × Hp} {ad : Nat → Nat} {fu : Nat} {S : Hp} {o : Nat} {x1 : Int32} (K : Kx E cX8_beatsOf RX8 (rmd 4 0 0)) (X : Bx E l yX8_beatsOf 4 (some .int) 0 0 ad (QI res)) (h : F_X8_beatsOf fu S o x1 = some res) : J E 0 0 0 [(0, vR (some o)), (1, vI x1)] [] S ad := by
  refine j_iconst (v := (0 : Int32)) K dX8_beatsOf_0 (by decide) ?_
  refine j_istore_n (lv' := [(2, vI (0 : Int32)), (0, vR (some o)), (1, vI x1)]) K dX8_beatsOf_1 rfl X.2.2.1 (by decide) rfl ?_
  refine j_iconst (v := (0 : Int32)) K dX8_beatsOf_2 (by decide) ?_
  refine j_istore_n (lv' := [(3, vI (0 : Int32)), (2, vI (0 : Int32)), (0, vR (some o)), (1, vI x1)]) K dX8_beatsOf_3 rfl X.2.2.1 (by decide) rfl ?_
  exact j_sub [2, 3, 1, 0] rfl (w_X8_beatsOf_4 K X _ _ _ _ h)
theorem c_X8_beatsOf {l : Launch} {fu : Nat} {S : Hp} {o : Nat} {x1 : Int32} {res : Int32 × Hp} (h : F_X8_beatsOf fu S o x1 = some res) : Ct l yX8_beatsOf cX8_beatsOf 4 (some .int) (rmd 4 0 0) 0 0 [vR (some o), vI x1] S (QI res) :=
  z_entry (by decide +kernel) (Nat.le_of_ble_eq_true rfl) (fun E ad K X => w_X8_beatsOf K X h)

theorem dX8_sawOf_0 : decode cX8_sawOf 0 = .ok (.iconst 0, 1) ∧ 0 + 1 = 1 := ⟨by decide +kernel, rfl⟩
theorem dX8_sawOf_1 : decode cX8_sawOf 1 = .ok (.istore_n 3, 1) ∧ 1 + 1 = 2 := ⟨by decide +kernel, rfl⟩
theorem dX8_sawOf_2 : decode cX8_sawOf 2 = .ok (.iconst 0, 1) ∧ 2 + 1 = 3 := ⟨by decide +kernel, rfl⟩
theorem dX8_sawOf_3 : decode cX8_sawOf 3 = .ok (.istore 4, 2) ∧ 3 + 2 = 5 := ⟨by decide +kernel, rfl⟩
theorem dX8_sawOf_5 : decode cX8_sawOf 5 = .ok (.iload 4, 2) ∧ 5 + 2 = 7 := ⟨by decide +kernel, rfl⟩
theorem dX8_sawOf_7 : decode cX8_sawOf 7 = .ok (.aload_n 0, 1) ∧ 7 + 1 = 8 := ⟨by decide +kernel, rfl⟩
theorem dX8_sawOf_8 : decode cX8_sawOf 8 = .ok (.getfield 91, 3) ∧ 8 + 3 = 11 := ⟨by decide +kernel, rfl⟩
theorem dX8_sawOf_11 : decode cX8_sawOf 11 = .ok (.if_icmp .ge 37, 3) ∧ 11 + 3 = 14 ∧ ((11 : Nat) : Int) + (37) = ((48 : Nat) : Int) := ⟨by decide +kernel, rfl, by decide⟩
theorem dX8_sawOf_14 : decode cX8_sawOf 14 = .ok (.iload_n 3, 1) ∧ 14 + 1 = 15 := ⟨by decide +kernel, rfl⟩
theorem dX8_sawOf_15 : decode cX8_sawOf 15 = .ok (.aload_n 0, 1) ∧ 15 + 1 = 16 := ⟨by decide +kernel, rfl⟩
theorem dX8_sawOf_16 : decode cX8_sawOf 16 = .ok (.iload_n 2, 1) ∧ 16 + 1 = 17 := ⟨by decide +kernel, rfl⟩
theorem dX8_sawOf_17 : decode cX8_sawOf 17 = .ok (.iload 4, 2) ∧ 17 + 2 = 19 := ⟨by decide +kernel, rfl⟩
theorem dX8_sawOf_19 : decode cX8_sawOf 19 = .ok (.invokevirtual 188, 3) := by decide +kernel
theorem dX8_sawOf_22 : decode cX8_sawOf 22 = .ok (.ifCond .eq 17, 3) ∧ 22 + 3 = 25 ∧ ((22 : Nat) : Int) + (17) = ((39 : Nat) : Int) := ⟨by decide +kernel, rfl, by decide⟩
theorem dX8_sawOf_25 : decode cX8_sawOf 25 = .ok (.aload_n 0, 1) ∧ 25 + 1 = 26 := ⟨by decide +kernel, rfl⟩
theorem dX8_sawOf_26 : decode cX8_sawOf 26 = .ok (.iload_n 1, 1) ∧ 26 + 1 = 27 := ⟨by decide +kernel, rfl⟩
theorem dX8_sawOf_27 : decode cX8_sawOf 27 = .ok (.iload 4, 2) ∧ 27 + 2 = 29 := ⟨by decide +kernel, rfl⟩
theorem dX8_sawOf_29 : decode cX8_sawOf 29 = .ok (.invokevirtual 192, 3) := by decide +kernel
theorem dX8_sawOf_32 : decode cX8_sawOf 32 = .ok (.ifCond .eq 7, 3) ∧ 32 + 3 = 35 ∧ ((32 : Nat) : Int) + (7) = ((39 : Nat) : Int) := ⟨by decide +kernel, rfl, by decide⟩
theorem dX8_sawOf_35 : decode cX8_sawOf 35 = .ok (.iconst 1, 1) ∧ 35 + 1 = 36 := ⟨by decide +kernel, rfl⟩
theorem dX8_sawOf_36 : decode cX8_sawOf 36 = .ok (.goto 4, 3) ∧ ((36 : Nat) : Int) + (4) = ((40 : Nat) : Int) := ⟨by decide +kernel, by decide⟩
theorem dX8_sawOf_39 : decode cX8_sawOf 39 = .ok (.iconst 0, 1) ∧ 39 + 1 = 40 := ⟨by decide +kernel, rfl⟩
theorem dX8_sawOf_40 : decode cX8_sawOf 40 = .ok (.iadd, 1) ∧ 40 + 1 = 41 := ⟨by decide +kernel, rfl⟩
theorem dX8_sawOf_41 : decode cX8_sawOf 41 = .ok (.istore_n 3, 1) ∧ 41 + 1 = 42 := ⟨by decide +kernel, rfl⟩
theorem dX8_sawOf_42 : decode cX8_sawOf 42 = .ok (.iinc 4 1, 3) ∧ 42 + 3 = 45 := ⟨by decide +kernel, rfl⟩
theorem dX8_sawOf_45 : decode cX8_sawOf 45 = .ok (.goto (-40), 3) ∧ ((45 : Nat) : Int) + (-40) = ((5 : Nat) : Int) := ⟨by decide +kernel, by decide⟩
theorem dX8_sawOf_48 : decode cX8_sawOf 48 = .ok (.iload_n 3, 1) ∧ 48 + 1 = 49 := ⟨by decide +kernel, rfl⟩
theorem dX8_sawOf_49 : decode cX8_sawOf 49 = .ok (.ireturn, 1) := by decide +kernel
def B_X8_sawOf_40 (k5 : Hp → Int32 → Int32 → Option (Int32 × Hp)) (fu : Nat) (o : Nat) (S : Hp) (x1 : Int32) (x2 : Int32) (x4 : Int32) (s0 : Int32) (s1 : Int32) : Option (Int32 × Hp) :=
  k5 S (s1 + s0) (x4 + (1 : Int32))
set_option maxRecDepth 100000 in
set_option maxHeartbeats 4000000 in
theorem w_X8_sawOf_40 {E : Cx} {l : Launch} {res : Int32 × Hp} {ad : Nat → Nat} {k5 : Hp → Int32 → Int32 → Option (Int32 × Hp)} {fu : Nat} {o : Nat} {S : Hp} {x1 : Int32} {x2 : Int32} {x4 : Int32} {s0 : Int32} {s1 : Int32} (K : Kx E cX8_sawOf RX8 (rmd 1 0 0)) (X : Bx E l yX8_sawOf 5 (some .int) 0 0 ad (QI res)) (hk5 : ∀ (S : Hp) (x3 : Int32) (x4 : Int32), k5 S x3 x4 = some res → J E 0 0 5 [(0, vR (some o)), (1, vI x1), (2, vI x2), (3, vI x3), (4, vI x4)] [] S ad) (h : B_X8_sawOf_40 k5 fu o S x1 x2 x4 s0 s1 = some res) : J E 0 0 40 [(0, vR (some o)), (1, vI x1), (2, vI x2), (4, vI x4)] [vI s0, vI s1] S ad := by
  refine j_iadd K dX8_sawOf_40 ?_
  refine j_istore_n (lv' := [(3, vI (s1 + s0)), (0, vR (some o)), (1, vI x1), (2, vI x2), (4, vI x4)]) K dX8_sawOf_41 rfl X.2.2.1 (by decide) rfl ?_
  refine j_iinc (q := 4) (v := (x4 + (1 : Int32))) (lv' := [(4, vI (x4 + (1 : Int32))), (3, vI (s1 + s0)), (0, vR (some o)), (1, vI x1), (2, vI x2)]) K dX8_sawOf_42 rfl rfl X.2.2.1 (by decide) rfl ?_
  refine j_goto K dX8_sawOf_45 ?_
  exact j_sub [2, 3, 4, 1, 0] rfl (hk5 _ _ _ h)
def B_X8_sawOf_39 (k5 : Hp → Int32 → Int32 → Option (Int32 × Hp)) (fu : Nat) (o : Nat) (S : Hp) (x1 : Int32) (x2 : Int32) (x4 : Int32) (s0 : Int32) : Option (Int32 × Hp) :=
  B_X8_sawOf_40 k5 fu o S x1 x2 x4 (0 : Int32) s0
set_option maxRecDepth 100000 in
set_option maxHeartbeats 4000000 in
theorem w_X8_sawOf_39 {E : Cx} {l : Launch} {res : Int32 × Hp} {ad : Nat → Nat} {k5 : Hp → Int32 → Int32 → Option (Int32 × Hp)} {fu : Nat} {o : Nat} {S : Hp} {x1 : Int32} {x2 : Int32} {x4 : Int32} {s0 : Int32} (K : Kx E cX8_sawOf RX8 (rmd 1 0 0)) (X : Bx E l yX8_sawOf 5 (some .int) 0 0 ad (QI res)) (hk5 : ∀ (S : Hp) (x3 : Int32) (x4 : Int32), k5 S x3 x4 = some res → J E 0 0 5 [(0, vR (some o)), (1, vI x1), (2, vI x2), (3, vI x3), (4, vI x4)] [] S ad) (h : B_X8_sawOf_39 k5 fu o S x1 x2 x4 s0 = some res) : J E 0 0 39 [(0, vR (some o)), (1, vI x1), (2, vI x2), (4, vI x4)] [vI s0] S ad := by
  refine j_iconst (v := (0 : Int32)) K dX8_sawOf_39 (by decide) ?_
  exact w_X8_sawOf_40 K X hk5 h
def L_X8_sawOf_5 (k5 : Hp → Int32 → Int32 → Option (Int32 × Hp)) (fu : Nat) (o : Nat) (x1 : Int32) (x2 : Int32) (S : Hp) (x3 : Int32) (x4 : Int32) : Option (Int32 × Hp) :=
  (gI S (some o) 6 7).bind fun v8 =>
  if v8 ≤ x4 then
    some (x3, S)
  else
    (ob S 6 (some o)).bind fun _ =>
    b2 (F_X8_did S o x2 x4) fun v19 S19 =>
    if v19 = 0 then
      B_X8_sawOf_39 k5 fu o S19 x1 x2 x4 x3
    else
      (ob S19 6 (some o)).bind fun _ =>
      b2 (F_X8_saw0 S19 o x1 x4) fun v29 S29 =>
      if v29 = 0 then
        B_X8_sawOf_39 k5 fu o S29 x1 x2 x4 x3
      else
        B_X8_sawOf_40 k5 fu o S29 x1 x2 x4 (1 : Int32) x3
set_option maxRecDepth 100000 in
set_option maxHeartbeats 4000000 in
theorem wl_X8_sawOf_5 {E : Cx} {l : Launch} {res : Int32 × Hp} {ad : Nat → Nat} {k5 : Hp → Int32 → Int32 → Option (Int32 × Hp)} {fu : Nat} {o : Nat} {S : Hp} {x1 : Int32} {x2 : Int32} {x3 : Int32} {x4 : Int32} (K : Kx E cX8_sawOf RX8 (rmd 1 0 0)) (X : Bx E l yX8_sawOf 5 (some .int) 0 0 ad (QI res)) (hk5 : ∀ (S : Hp) (x3 : Int32) (x4 : Int32), k5 S x3 x4 = some res → J E 0 0 5 [(0, vR (some o)), (1, vI x1), (2, vI x2), (3, vI x3), (4, vI x4)] [] S ad) (h : L_X8_sawOf_5 k5 fu o x1 x2 S x3 x4 = some res) : J E 0 0 5 [(0, vR (some o)), (1, vI x1), (2, vI x2), (3, vI x3), (4, vI x4)] [] S ad := by
  refine j_iload K dX8_sawOf_5 4 rfl ?_
  refine j_aload_n K dX8_sawOf_7 rfl 0 rfl ?_
  obtain ⟨v8, e8, h⟩ := bd h
  refine fgX8_91 K dX8_sawOf_8 e8 ?_
  refine j_icmp_ge K dX8_sawOf_11 (fun c11 => ?_) (fun c11 => ?_)
  · replace h := it c11 h
    refine j_iload_n K dX8_sawOf_48 rfl 3 rfl ?_
    exact j_iret K X dX8_sawOf_49 h
  · replace h := ie c11 h
    refine j_iload_n K dX8_sawOf_14 rfl 3 rfl ?_
    refine j_aload_n K dX8_sawOf_15 rfl 0 rfl ?_
    refine j_iload_n K dX8_sawOf_16 rfl 2 rfl ?_
    refine j_iload K dX8_sawOf_17 4 rfl ?_
    obtain ⟨w19, ew19, h⟩ := bd h
    have ho19 := obS ew19
    obtain ⟨v19, S19, e19, h⟩ := bd2 h
    refine j_cI (st := [vI x3]) K (r_V (vs := [vI x2, vI x4]) (n := 2) (o := o) K (c_X8_did e19) ho19 (by decide) rfl dX8_sawOf_19 z1040 z1042 zs39 z13 z1043 ⟨zd_X8_did, rfl, rfl, rfl, ⟨Nat.le_of_ble_eq_true rfl, Nat.le_of_ble_eq_true rfl⟩, Nat.le_of_ble_eq_true rfl, Nat.le_of_ble_eq_true rfl, Nat.le_of_ble_eq_true rfl⟩) rfl ?_
    refine j_if_eq K dX8_sawOf_22 (fun c22 => ?_) (fun c22 => ?_)
    · replace h := it c22 h
      exact j_sub [0, 1, 2, 4] rfl (w_X8_sawOf_39 K X hk5 h)
    · replace h := ie c22 h
      refine j_aload_n K dX8_sawOf_25 rfl 0 rfl ?_
      refine j_iload_n K dX8_sawOf_26 rfl 1 rfl ?_
      refine j_iload K dX8_sawOf_27 4 rfl ?_
      obtain ⟨w29, ew29, h⟩ := bd h
      have ho29 := obS ew29
      obtain ⟨v29, S29, e29, h⟩ := bd2 h
      refine j_cI (st := [vI x3]) K (r_V (vs := [vI x1, vI x4]) (n := 2) (o := o) K (c_X8_saw0 e29) ho29 (by decide) rfl dX8_sawOf_29 z1044 z1046 zs40 z13 z1047 ⟨zd_X8_saw0, rfl, rfl, rfl, ⟨Nat.le_of_ble_eq_true rfl, Nat.le_of_ble_eq_true rfl⟩, Nat.le_of_ble_eq_true rfl, Nat.le_of_ble_eq_true rfl, Nat.le_of_ble_eq_true rfl⟩) rfl ?_
      refine j_if_eq K dX8_sawOf_32 (fun c32 => ?_) (fun c32 => ?_)
      · replace h := it c32 h
        exact j_sub [0, 1, 2, 4] rfl (w_X8_sawOf_39 K X hk5 h)
      · replace h := ie c32 h
        refine j_iconst (v := (1 : Int32)) K dX8_sawOf_35 (by decide) ?_
        refine j_goto K dX8_sawOf_36 ?_
        exact j_sub [0, 1, 2, 4] rfl (w_X8_sawOf_40 K X hk5 h)
def B_X8_sawOf_5 (fu : Nat) (o : Nat) (x1 : Int32) (x2 : Int32) : Nat → Hp → Int32 → Int32 → Option (Int32 × Hp)
  | 0 => fun _ _ _ => none
  | n + 1 => L_X8_sawOf_5 (B_X8_sawOf_5 fu o x1 x2 n) fu o x1 x2
theorem w_X8_sawOf_5 {E : Cx} {l : Launch} {res : Int32 × Hp} {ad : Nat → Nat} {fu : Nat} {o : Nat} {x1 : Int32} {x2 : Int32} (K : Kx E cX8_sawOf RX8 (rmd 1 0 0)) (X : Bx E l yX8_sawOf 5 (some .int) 0 0 ad (QI res)) : ∀ (n : Nat) (S : Hp) (x3 : Int32) (x4 : Int32), B_X8_sawOf_5 fu o x1 x2 n S x3 x4 = some res → J E 0 0 5 [(0, vR (some o)), (1, vI x1), (2, vI x2), (3, vI x3), (4, vI x4)] [] S ad := by
  intro n
  induction n with
  | zero =>
    intro S x3 x4 h
    cases h
  | succ n ih =>
    intro S x3 x4 h
    exact wl_X8_sawOf_5 K X ih h
def F_X8_sawOf (fu : Nat) (S : Hp) (o : Nat) (x1 : Int32) (x2 : Int32) : Option (Int32 × Hp) :=
  B_X8_sawOf_5 fu o x1 x2 fu S (0 : Int32) (0 : Int32)
set_option maxRecDepth 100000 in
set_option maxHeartbeats 4000000 in
theorem w_X8_sawOf {E : Cx} {l : Launch} {res : Int32 × Hp} {ad : Nat → Nat} {fu : Nat} {S : Hp} {o : Nat} {x1 : Int32} {x2 : Int32} (K : Kx E cX8_sawOf RX8 (rmd 1 0 0)) (X : Bx E l yX8_sawOf 5 (some .int) 0 0 ad (QI res)) (h : F_X8_sawOf fu S o x1 x2 = some res) : J E 0 0 0 [(0, vR (some o)), (1, vI x1), (2, vI x2)] [] S ad := by
  refine j_iconst (v := (0 : Int32)) K dX8_sawOf_0 (by decide) ?_
  refine j_istore_n (lv' := [(3, vI (0 : Int32)), (0, vR (some o)), (1, vI x1), (2, vI x2)]) K dX8_sawOf_1 rfl X.2.2.1 (by decide) rfl ?_
  refine j_iconst (v := (0 : Int32)) K dX8_sawOf_2 (by decide) ?_
  refine j_istore (lv' := [(4, vI (0 : Int32)), (3, vI (0 : Int32)), (0, vR (some o)), (1, vI x1), (2, vI x2)]) K dX8_sawOf_3 X.2.2.1 (by decide) rfl ?_
  exact j_sub [2, 3, 4, 1, 0] rfl (w_X8_sawOf_5 K X _ _ _ _ h)
theorem c_X8_sawOf {l : Launch} {fu : Nat} {S : Hp} {o : Nat} {x1 : Int32} {x2 : Int32} {res : Int32 × Hp} (h : F_X8_sawOf fu S o x1 x2 = some res) : Ct l yX8_sawOf cX8_sawOf 5 (some .int) (rmd 1 0 0) 0 0 [vR (some o), vI x1, vI x2] S (QI res) :=
  z_entry (by decide +kernel) (Nat.le_of_ble_eq_true rfl) (fun E ad K X => w_X8_sawOf K X h)

theorem dX8_lastSeen_0 : decode cX8_lastSeen 0 = .ok (.iconst 0, 1) ∧ 0 + 1 = 1 := ⟨by decide +kernel, rfl⟩
theorem dX8_lastSeen_1 : decode cX8_lastSeen 1 = .ok (.istore_n 3, 1) ∧ 1 + 1 = 2 := ⟨by decide +kernel, rfl⟩
theorem dX8_lastSeen_2 : decode cX8_lastSeen 2 = .ok (.iconst 0, 1) ∧ 2 + 1 = 3 := ⟨by decide +kernel, rfl⟩
theorem dX8_lastSeen_3 : decode cX8_lastSeen 3 = .ok (.istore 4, 2) ∧ 3 + 2 = 5 := ⟨by decide +kernel, rfl⟩
theorem dX8_lastSeen_5 : decode cX8_lastSeen 5 = .ok (.iload 4, 2) ∧ 5 + 2 = 7 := ⟨by decide +kernel, rfl⟩
theorem dX8_lastSeen_7 : decode cX8_lastSeen 7 = .ok (.aload_n 0, 1) ∧ 7 + 1 = 8 := ⟨by decide +kernel, rfl⟩
theorem dX8_lastSeen_8 : decode cX8_lastSeen 8 = .ok (.getfield 91, 3) ∧ 8 + 3 = 11 := ⟨by decide +kernel, rfl⟩
theorem dX8_lastSeen_11 : decode cX8_lastSeen 11 = .ok (.if_icmp .ge 36, 3) ∧ 11 + 3 = 14 ∧ ((11 : Nat) : Int) + (36) = ((47 : Nat) : Int) := ⟨by decide +kernel, rfl, by decide⟩
theorem dX8_lastSeen_14 : decode cX8_lastSeen 14 = .ok (.aload_n 0, 1) ∧ 14 + 1 = 15 := ⟨by decide +kernel, rfl⟩
theorem dX8_lastSeen_15 : decode cX8_lastSeen 15 = .ok (.iload_n 2, 1) ∧ 15 + 1 = 16 := ⟨by decide +kernel, rfl⟩
theorem dX8_lastSeen_16 : decode cX8_lastSeen 16 = .ok (.iload 4, 2) ∧ 16 + 2 = 18 := ⟨by decide +kernel, rfl⟩
theorem dX8_lastSeen_18 : decode cX8_lastSeen 18 = .ok (.invokevirtual 188, 3) := by decide +kernel
theorem dX8_lastSeen_21 : decode cX8_lastSeen 21 = .ok (.ifCond .eq 18, 3) ∧ 21 + 3 = 24 ∧ ((21 : Nat) : Int) + (18) = ((39 : Nat) : Int) := ⟨by decide +kernel, rfl, by decide⟩
theorem dX8_lastSeen_24 : decode cX8_lastSeen 24 = .ok (.aload_n 0, 1) ∧ 24 + 1 = 25 := ⟨by decide +kernel, rfl⟩
theorem dX8_lastSeen_25 : decode cX8_lastSeen 25 = .ok (.iload_n 1, 1) ∧ 25 + 1 = 26 := ⟨by decide +kernel, rfl⟩
theorem dX8_lastSeen_26 : decode cX8_lastSeen 26 = .ok (.iload 4, 2) ∧ 26 + 2 = 28 := ⟨by decide +kernel, rfl⟩
theorem dX8_lastSeen_28 : decode cX8_lastSeen 28 = .ok (.invokevirtual 192, 3) := by decide +kernel
theorem dX8_lastSeen_31 : decode cX8_lastSeen 31 = .ok (.ifCond .eq 8, 3) ∧ 31 + 3 = 34 ∧ ((31 : Nat) : Int) + (8) = ((39 : Nat) : Int) := ⟨by decide +kernel, rfl, by decide⟩
theorem dX8_lastSeen_34 : decode cX8_lastSeen 34 = .ok (.iload 4, 2) ∧ 34 + 2 = 36 := ⟨by decide +kernel, rfl⟩
theorem dX8_lastSeen_36 : decode cX8_lastSeen 36 = .ok (.goto 4, 3) ∧ ((36 : Nat) : Int) + (4) = ((40 : Nat) : Int) := ⟨by decide +kernel, by decide⟩
theorem dX8_lastSeen_39 : decode cX8_lastSeen 39 = .ok (.iload_n 3, 1) ∧ 39 + 1 = 40 := ⟨by decide +kernel, rfl⟩
theorem dX8_lastSeen_40 : decode cX8_lastSeen 40 = .ok (.istore_n 3, 1) ∧ 40 + 1 = 41 := ⟨by decide +kernel, rfl⟩
theorem dX8_lastSeen_41 : decode cX8_lastSeen 41 = .ok (.iinc 4 1, 3) ∧ 41 + 3 = 44 := ⟨by decide +kernel, rfl⟩
theorem dX8_lastSeen_44 : decode cX8_lastSeen 44 = .ok (.goto (-39), 3) ∧ ((44 : Nat) : Int) + (-39) = ((5 : Nat) : Int) := ⟨by decide +kernel, by decide⟩
theorem dX8_lastSeen_47 : decode cX8_lastSeen 47 = .ok (.iload_n 3, 1) ∧ 47 + 1 = 48 := ⟨by decide +kernel, rfl⟩
theorem dX8_lastSeen_48 : decode cX8_lastSeen 48 = .ok (.ireturn, 1) := by decide +kernel
def B_X8_lastSeen_40 (k5 : Hp → Int32 → Int32 → Option (Int32 × Hp)) (fu : Nat) (o : Nat) (S : Hp) (x1 : Int32) (x2 : Int32) (x4 : Int32) (s0 : Int32) : Option (Int32 × Hp) :=
  k5 S s0 (x4 + (1 : Int32))
set_option maxRecDepth 100000 in
set_option maxHeartbeats 4000000 in
theorem w_X8_lastSeen_40 {E : Cx} {l : Launch} {res : Int32 × Hp} {ad : Nat → Nat} {k5 : Hp → Int32 → Int32 → Option (Int32 × Hp)} {fu : Nat} {o : Nat} {S : Hp} {x1 : Int32} {x2 : Int32} {x4 : Int32} {s0 : Int32} (K : Kx E cX8_lastSeen RX8 (rmd 1 0 0)) (X : Bx E l yX8_lastSeen 5 (some .int) 0 0 ad (QI res)) (hk5 : ∀ (S : Hp) (x3 : Int32) (x4 : Int32), k5 S x3 x4 = some res → J E 0 0 5 [(0, vR (some o)), (1, vI x1), (2, vI x2), (3, vI x3), (4, vI x4)] [] S ad) (h : B_X8_lastSeen_40 k5 fu o S x1 x2 x4 s0 = some res) : J E 0 0 40 [(0, vR (some o)), (1, vI x1), (2, vI x2), (4, vI x4)] [vI s0] S ad := by
  refine j_istore_n (lv' := [(3, vI s0), (0, vR (some o)), (1, vI x1), (2, vI x2), (4, vI x4)]) K dX8_lastSeen_40 rfl X.2.2.1 (by decide) rfl ?_
  refine j_iinc (q := 4) (v := (x4 + (1 : Int32))) (lv' := [(4, vI (x4 + (1 : Int32))), (3, vI s0), (0, vR (some o)), (1, vI x1), (2, vI x2)]) K dX8_lastSeen_41 rfl rfl X.2.2.1 (by decide) rfl ?_
  refine j_goto K dX8_lastSeen_44 ?_
  exact j_sub [2, 3, 4, 1, 0] rfl (hk5 _ _ _ h)
def B_X8_lastSeen_39 (k5 : Hp → Int32 → Int32 → Option (Int32 × Hp)) (fu : Nat) (o : Nat) (S : Hp) (x1 : Int32) (x2 : Int32) (x3 : Int32) (x4 : Int32) : Option (Int32 × Hp) :=
  B_X8_lastSeen_40 k5 fu o S x1 x2 x4 x3
set_option maxRecDepth 100000 in
set_option maxHeartbeats 4000000 in
theorem w_X8_lastSeen_39 {E : Cx} {l : Launch} {res : Int32 × Hp} {ad : Nat → Nat} {k5 : Hp → Int32 → Int32 → Option (Int32 × Hp)} {fu : Nat} {o : Nat} {S : Hp} {x1 : Int32} {x2 : Int32} {x3 : Int32} {x4 : Int32} (K : Kx E cX8_lastSeen RX8 (rmd 1 0 0)) (X : Bx E l yX8_lastSeen 5 (some .int) 0 0 ad (QI res)) (hk5 : ∀ (S : Hp) (x3 : Int32) (x4 : Int32), k5 S x3 x4 = some res → J E 0 0 5 [(0, vR (some o)), (1, vI x1), (2, vI x2), (3, vI x3), (4, vI x4)] [] S ad) (h : B_X8_lastSeen_39 k5 fu o S x1 x2 x3 x4 = some res) : J E 0 0 39 [(0, vR (some o)), (1, vI x1), (2, vI x2), (3, vI x3), (4, vI x4)] [] S ad := by
  refine j_iload_n K dX8_lastSeen_39 rfl 3 rfl ?_
  exact j_sub [0, 1, 2, 4] rfl (w_X8_lastSeen_40 K X hk5 h)
def L_X8_lastSeen_5 (k5 : Hp → Int32 → Int32 → Option (Int32 × Hp)) (fu : Nat) (o : Nat) (x1 : Int32) (x2 : Int32) (S : Hp) (x3 : Int32) (x4 : Int32) : Option (Int32 × Hp) :=
  (gI S (some o) 6 7).bind fun v8 =>
  if v8 ≤ x4 then
    some (x3, S)
  else
    (ob S 6 (some o)).bind fun _ =>
    b2 (F_X8_did S o x2 x4) fun v18 S18 =>
    if v18 = 0 then
      B_X8_lastSeen_39 k5 fu o S18 x1 x2 x3 x4
    else
      (ob S18 6 (some o)).bind fun _ =>
      b2 (F_X8_saw0 S18 o x1 x4) fun v28 S28 =>
      if v28 = 0 then
        B_X8_lastSeen_39 k5 fu o S28 x1 x2 x3 x4
      else
        B_X8_lastSeen_40 k5 fu o S28 x1 x2 x4 x4
set_option maxRecDepth 100000 in
set_option maxHeartbeats 4000000 in
theorem wl_X8_lastSeen_5 {E : Cx} {l : Launch} {res : Int32 × Hp} {ad : Nat → Nat} {k5 : Hp → Int32 → Int32 → Option (Int32 × Hp)} {fu : Nat} {o : Nat} {S : Hp} {x1 : Int32} {x2 : Int32} {x3 : Int32} {x4 : Int32} (K : Kx E cX8_lastSeen RX8 (rmd 1 0 0)) (X : Bx E l yX8_lastSeen 5 (some .int) 0 0 ad (QI res)) (hk5 : ∀ (S : Hp) (x3 : Int32) (x4 : Int32), k5 S x3 x4 = some res → J E 0 0 5 [(0, vR (some o)), (1, vI x1), (2, vI x2), (3, vI x3), (4, vI x4)] [] S ad) (h : L_X8_lastSeen_5 k5 fu o x1 x2 S x3 x4 = some res) : J E 0 0 5 [(0, vR (some o)), (1, vI x1), (2, vI x2), (3, vI x3), (4, vI x4)] [] S ad := by
  refine j_iload K dX8_lastSeen_5 4 rfl ?_
  refine j_aload_n K dX8_lastSeen_7 rfl 0 rfl ?_
  obtain ⟨v8, e8, h⟩ := bd h
  refine fgX8_91 K dX8_lastSeen_8 e8 ?_
  refine j_icmp_ge K dX8_lastSeen_11 (fun c11 => ?_) (fun c11 => ?_)
  · replace h := it c11 h
    refine j_iload_n K dX8_lastSeen_47 rfl 3 rfl ?_
    exact j_iret K X dX8_lastSeen_48 h
  · replace h := ie c11 h
    refine j_aload_n K dX8_lastSeen_14 rfl 0 rfl ?_
    refine j_iload_n K dX8_lastSeen_15 rfl 2 rfl ?_
    refine j_iload K dX8_lastSeen_16 4 rfl ?_
    obtain ⟨w18, ew18, h⟩ := bd h
    have ho18 := obS ew18
    obtain ⟨v18, S18, e18, h⟩ := bd2 h
    refine j_cI (st := []) K (r_V (vs := [vI x2, vI x4]) (n := 2) (o := o) K (c_X8_did e18) ho18 (by decide) rfl dX8_lastSeen_18 z1040 z1042 zs39 z13 z1043 ⟨zd_X8_did, rfl, rfl, rfl, ⟨Nat.le_of_ble_eq_true rfl, Nat.le_of_ble_eq_true rfl⟩, Nat.le_of_ble_eq_true rfl, Nat.le_of_ble_eq_true rfl, Nat.le_of_ble_eq_true rfl⟩) rfl ?_
    refine j_if_eq K dX8_lastSeen_21 (fun c21 => ?_) (fun c21 => ?_)
    · replace h := it c21 h
      exact w_X8_lastSeen_39 K X hk5 h
    · replace h := ie c21 h
      refine j_aload_n K dX8_lastSeen_24 rfl 0 rfl ?_
      refine j_iload_n K dX8_lastSeen_25 rfl 1 rfl ?_
      refine j_iload K dX8_lastSeen_26 4 rfl ?_
      obtain ⟨w28, ew28, h⟩ := bd h
      have ho28 := obS ew28
      obtain ⟨v28, S28, e28, h⟩ := bd2 h
      refine j_cI (st := []) K (r_V (vs := [vI x1, vI x4]) (n := 2) (o := o) K (c_X8_saw0 e28) ho28 (by decide) rfl dX8_lastSeen_28 z1044 z1046 zs40 z13 z1047 ⟨zd_X8_saw0, rfl, rfl, rfl, ⟨Nat.le_of_ble_eq_true rfl, Nat.le_of_ble_eq_true rfl⟩, Nat.le_of_ble_eq_true rfl, Nat.le_of_ble_eq_true rfl, Nat.le_of_ble_eq_true rfl⟩) rfl ?_
      refine j_if_eq K dX8_lastSeen_31 (fun c31 => ?_) (fun c31 => ?_)
      · replace h := it c31 h
        exact w_X8_lastSeen_39 K X hk5 h
      · replace h := ie c31 h
        refine j_iload K dX8_lastSeen_34 4 rfl ?_
        refine j_goto K dX8_lastSeen_36 ?_
        exact j_sub [0, 1, 2, 4] rfl (w_X8_lastSeen_40 K X hk5 h)
def B_X8_lastSeen_5 (fu : Nat) (o : Nat) (x1 : Int32) (x2 : Int32) : Nat → Hp → Int32 → Int32 → Option (Int32 × Hp)
  | 0 => fun _ _ _ => none
  | n + 1 => L_X8_lastSeen_5 (B_X8_lastSeen_5 fu o x1 x2 n) fu o x1 x2
theorem w_X8_lastSeen_5 {E : Cx} {l : Launch} {res : Int32 × Hp} {ad : Nat → Nat} {fu : Nat} {o : Nat} {x1 : Int32} {x2 : Int32} (K : Kx E cX8_lastSeen RX8 (rmd 1 0 0)) (X : Bx E l yX8_lastSeen 5 (some .int) 0 0 ad (QI res)) : ∀ (n : Nat) (S : Hp) (x3 : Int32) (x4 : Int32), B_X8_lastSeen_5 fu o x1 x2 n S x3 x4 = some res → J E 0 0 5 [(0, vR (some o)), (1, vI x1), (2, vI x2), (3, vI x3), (4, vI x4)] [] S ad := by
  intro n
  induction n with
  | zero =>
    intro S x3 x4 h
    cases h
  | succ n ih =>
    intro S x3 x4 h
    exact wl_X8_lastSeen_5 K X ih h
def F_X8_lastSeen (fu : Nat) (S : Hp) (o : Nat) (x1 : Int32) (x2 : Int32) : Option (Int32 × Hp) :=
  B_X8_lastSeen_5 fu o x1 x2 fu S (0 : Int32) (0 : Int32)
set_option maxRecDepth 100000 in
set_option maxHeartbeats 4000000 in
theorem w_X8_lastSeen {E : Cx} {l : Launch} {res : Int32 × Hp} {ad : Nat → Nat} {fu : Nat} {S : Hp} {o : Nat} {x1 : Int32} {x2 : Int32} (K : Kx E cX8_lastSeen RX8 (rmd 1 0 0)) (X : Bx E l yX8_lastSeen 5 (some .int) 0 0 ad (QI res)) (h : F_X8_lastSeen fu S o x1 x2 = some res) : J E 0 0 0 [(0, vR (some o)), (1, vI x1), (2, vI x2)] [] S ad := by
  refine j_iconst (v := (0 : Int32)) K dX8_lastSeen_0 (by decide) ?_
  refine j_istore_n (lv' := [(3, vI (0 : Int32)), (0, vR (some o)), (1, vI x1), (2, vI x2)]) K dX8_lastSeen_1 rfl X.2.2.1 (by decide) rfl ?_
  refine j_iconst (v := (0 : Int32)) K dX8_lastSeen_2 (by decide) ?_
  refine j_istore (lv' := [(4, vI (0 : Int32)), (3, vI (0 : Int32)), (0, vR (some o)), (1, vI x1), (2, vI x2)]) K dX8_lastSeen_3 X.2.2.1 (by decide) rfl ?_
  exact j_sub [2, 3, 4, 1, 0] rfl (w_X8_lastSeen_5 K X _ _ _ _ h)
theorem c_X8_lastSeen {l : Launch} {fu : Nat} {S : Hp} {o : Nat} {x1 : Int32} {x2 : Int32} {res : Int32 × Hp} (h : F_X8_lastSeen fu S o x1 x2 = some res) : Ct l yX8_lastSeen cX8_lastSeen 5 (some .int) (rmd 1 0 0) 0 0 [vR (some o), vI x1, vI x2] S (QI res) :=
  z_entry (by decide +kernel) (Nat.le_of_ble_eq_true rfl) (fun E ad K X => w_X8_lastSeen K X h)

theorem dX8_caughtBy_0 : decode cX8_caughtBy 0 = .ok (.iconst 0, 1) ∧ 0 + 1 = 1 := ⟨by decide +kernel, rfl⟩
theorem dX8_caughtBy_1 : decode cX8_caughtBy 1 = .ok (.istore_n 3, 1) ∧ 1 + 1 = 2 := ⟨by decide +kernel, rfl⟩
theorem dX8_caughtBy_2 : decode cX8_caughtBy 2 = .ok (.iconst 0, 1) ∧ 2 + 1 = 3 := ⟨by decide +kernel, rfl⟩
theorem dX8_caughtBy_3 : decode cX8_caughtBy 3 = .ok (.istore 4, 2) ∧ 3 + 2 = 5 := ⟨by decide +kernel, rfl⟩
theorem dX8_caughtBy_5 : decode cX8_caughtBy 5 = .ok (.iload 4, 2) ∧ 5 + 2 = 7 := ⟨by decide +kernel, rfl⟩
theorem dX8_caughtBy_7 : decode cX8_caughtBy 7 = .ok (.aload_n 0, 1) ∧ 7 + 1 = 8 := ⟨by decide +kernel, rfl⟩
theorem dX8_caughtBy_8 : decode cX8_caughtBy 8 = .ok (.getfield 84, 3) ∧ 8 + 3 = 11 := ⟨by decide +kernel, rfl⟩
theorem dX8_caughtBy_11 : decode cX8_caughtBy 11 = .ok (.if_icmp .ge 37, 3) ∧ 11 + 3 = 14 ∧ ((11 : Nat) : Int) + (37) = ((48 : Nat) : Int) := ⟨by decide +kernel, rfl, by decide⟩
theorem dX8_caughtBy_14 : decode cX8_caughtBy 14 = .ok (.iload_n 3, 1) ∧ 14 + 1 = 15 := ⟨by decide +kernel, rfl⟩
theorem dX8_caughtBy_15 : decode cX8_caughtBy 15 = .ok (.iload 4, 2) ∧ 15 + 2 = 17 := ⟨by decide +kernel, rfl⟩
theorem dX8_caughtBy_17 : decode cX8_caughtBy 17 = .ok (.iload_n 1, 1) ∧ 17 + 1 = 18 := ⟨by decide +kernel, rfl⟩
theorem dX8_caughtBy_18 : decode cX8_caughtBy 18 = .ok (.if_icmp .eq 21, 3) ∧ 18 + 3 = 21 ∧ ((18 : Nat) : Int) + (21) = ((39 : Nat) : Int) := ⟨by decide +kernel, rfl, by decide⟩
theorem dX8_caughtBy_21 : decode cX8_caughtBy 21 = .ok (.aload_n 0, 1) ∧ 21 + 1 = 22 := ⟨by decide +kernel, rfl⟩
theorem dX8_caughtBy_22 : decode cX8_caughtBy 22 = .ok (.iload 4, 2) ∧ 22 + 2 = 24 := ⟨by decide +kernel, rfl⟩
theorem dX8_caughtBy_24 : decode cX8_caughtBy 24 = .ok (.iload_n 1, 1) ∧ 24 + 1 = 25 := ⟨by decide +kernel, rfl⟩
theorem dX8_caughtBy_25 : decode cX8_caughtBy 25 = .ok (.invokevirtual 202, 3) := by decide +kernel
theorem dX8_caughtBy_28 : decode cX8_caughtBy 28 = .ok (.iload_n 2, 1) ∧ 28 + 1 = 29 := ⟨by decide +kernel, rfl⟩
theorem dX8_caughtBy_29 : decode cX8_caughtBy 29 = .ok (.if_icmp .le 10, 3) ∧ 29 + 3 = 32 ∧ ((29 : Nat) : Int) + (10) = ((39 : Nat) : Int) := ⟨by decide +kernel, rfl, by decide⟩
theorem dX8_caughtBy_32 : decode cX8_caughtBy 32 = .ok (.iconst 1, 1) ∧ 32 + 1 = 33 := ⟨by decide +kernel, rfl⟩
theorem dX8_caughtBy_33 : decode cX8_caughtBy 33 = .ok (.iload 4, 2) ∧ 33 + 2 = 35 := ⟨by decide +kernel, rfl⟩
theorem dX8_caughtBy_35 : decode cX8_caughtBy 35 = .ok (.ishl, 1) ∧ 35 + 1 = 36 := ⟨by decide +kernel, rfl⟩
theorem dX8_caughtBy_36 : decode cX8_caughtBy 36 = .ok (.goto 4, 3) ∧ ((36 : Nat) : Int) + (4) = ((40 : Nat) : Int) := ⟨by decide +kernel, by decide⟩
theorem dX8_caughtBy_39 : decode cX8_caughtBy 39 = .ok (.iconst 0, 1) ∧ 39 + 1 = 40 := ⟨by decide +kernel, rfl⟩
theorem dX8_caughtBy_40 : decode cX8_caughtBy 40 = .ok (.ior, 1) ∧ 40 + 1 = 41 := ⟨by decide +kernel, rfl⟩
theorem dX8_caughtBy_41 : decode cX8_caughtBy 41 = .ok (.istore_n 3, 1) ∧ 41 + 1 = 42 := ⟨by decide +kernel, rfl⟩
theorem dX8_caughtBy_42 : decode cX8_caughtBy 42 = .ok (.iinc 4 1, 3) ∧ 42 + 3 = 45 := ⟨by decide +kernel, rfl⟩
theorem dX8_caughtBy_45 : decode cX8_caughtBy 45 = .ok (.goto (-40), 3) ∧ ((45 : Nat) : Int) + (-40) = ((5 : Nat) : Int) := ⟨by decide +kernel, by decide⟩
theorem dX8_caughtBy_48 : decode cX8_caughtBy 48 = .ok (.iload_n 3, 1) ∧ 48 + 1 = 49 := ⟨by decide +kernel, rfl⟩
theorem dX8_caughtBy_49 : decode cX8_caughtBy 49 = .ok (.ireturn, 1) := by decide +kernel
def B_X8_caughtBy_40 (k5 : Hp → Int32 → Int32 → Option (Int32 × Hp)) (fu : Nat) (o : Nat) (S : Hp) (x1 : Int32) (x2 : Int32) (x4 : Int32) (s0 : Int32) (s1 : Int32) : Option (Int32 × Hp) :=
  k5 S (s1 ||| s0) (x4 + (1 : Int32))
set_option maxRecDepth 100000 in
set_option maxHeartbeats 4000000 in
theorem w_X8_caughtBy_40 {E : Cx} {l : Launch} {res : Int32 × Hp} {ad : Nat → Nat} {k5 : Hp → Int32 → Int32 → Option (Int32 × Hp)} {fu : Nat} {o : Nat} {S : Hp} {x1 : Int32} {x2 : Int32} {x4 : Int32} {s0 : Int32} {s1 : Int32} (K : Kx E cX8_caughtBy RX8 (rmd 2 0 0)) (X : Bx E l yX8_caughtBy 5 (some .int) 0 0 ad (QI res)) (hk5 : ∀ (S : Hp) (x3 : Int32) (x4 : Int32), k5 S x3 x4 = some res → J E 0 0 5 [(0, vR (some o)), (1, vI x1), (2, vI x2), (3, vI x3), (4, vI x4)] [] S ad) (h : B_X8_caughtBy_40 k5 fu o S x1 x2 x4 s0 s1 = some res) : J E 0 0 40 [(0, vR (some o)), (1, vI x1), (2, vI x2), (4, vI x4)] [vI s0, vI s1] S ad := by
  refine j_ior K dX8_caughtBy_40 ?_
  refine j_istore_n (lv' := [(3, vI (s1 ||| s0)), (0, vR (some o)), (1, vI x1), (2, vI x2), (4, vI x4)]) K dX8_caughtBy_41 rfl X.2.2.1 (by decide) rfl ?_
  refine j_iinc (q := 4) (v := (x4 + (1 : Int32))) (lv' := [(4, vI (x4 + (1 : Int32))), (3, vI (s1 ||| s0)), (0, vR (some o)), (1, vI x1), (2, vI x2)]) K dX8_caughtBy_42 rfl rfl X.2.2.1 (by decide) rfl ?_
  refine j_goto K dX8_caughtBy_45 ?_
  exact j_sub [2, 3, 4, 1, 0] rfl (hk5 _ _ _ h)
def B_X8_caughtBy_39 (k5 : Hp → Int32 → Int32 → Option (Int32 × Hp)) (fu : Nat) (o : Nat) (S : Hp) (x1 : Int32) (x2 : Int32) (x4 : Int32) (s0 : Int32) : Option (Int32 × Hp) :=
  B_X8_caughtBy_40 k5 fu o S x1 x2 x4 (0 : Int32) s0
set_option maxRecDepth 100000 in
set_option maxHeartbeats 4000000 in
theorem w_X8_caughtBy_39 {E : Cx} {l : Launch} {res : Int32 × Hp} {ad : Nat → Nat} {k5 : Hp → Int32 → Int32 → Option (Int32 × Hp)} {fu : Nat} {o : Nat} {S : Hp} {x1 : Int32} {x2 : Int32} {x4 : Int32} {s0 : Int32} (K : Kx E cX8_caughtBy RX8 (rmd 2 0 0)) (X : Bx E l yX8_caughtBy 5 (some .int) 0 0 ad (QI res)) (hk5 : ∀ (S : Hp) (x3 : Int32) (x4 : Int32), k5 S x3 x4 = some res → J E 0 0 5 [(0, vR (some o)), (1, vI x1), (2, vI x2), (3, vI x3), (4, vI x4)] [] S ad) (h : B_X8_caughtBy_39 k5 fu o S x1 x2 x4 s0 = some res) : J E 0 0 39 [(0, vR (some o)), (1, vI x1), (2, vI x2), (4, vI x4)] [vI s0] S ad := by
  refine j_iconst (v := (0 : Int32)) K dX8_caughtBy_39 (by decide) ?_
  exact w_X8_caughtBy_40 K X hk5 h
def L_X8_caughtBy_5 (k5 : Hp → Int32 → Int32 → Option (Int32 × Hp)) (fu : Nat) (o : Nat) (x1 : Int32) (x2 : Int32) (S : Hp) (x3 : Int32) (x4 : Int32) : Option (Int32 × Hp) :=
  (gI S (some o) 6 0).bind fun v8 =>
  if v8 ≤ x4 then
    some (x3, S)
  else
    if x4 = x1 then
      B_X8_caughtBy_39 k5 fu o S x1 x2 x4 x3
    else
      (ob S 6 (some o)).bind fun _ =>
      b2 (F_X8_sawOf fu S o x4 x1) fun v25 S25 =>
      if v25 ≤ x2 then
        B_X8_caughtBy_39 k5 fu o S25 x1 x2 x4 x3
      else
        B_X8_caughtBy_40 k5 fu o S25 x1 x2 x4 ((1 : Int32) <<< (x4 &&& 31)) x3
set_option maxRecDepth 100000 in
set_option maxHeartbeats 4000000 in
theorem wl_X8_caughtBy_5 {E : Cx} {l : Launch} {res : Int32 × Hp} {ad : Nat → Nat} {k5 : Hp → Int32 → Int32 → Option (Int32 × Hp)} {fu : Nat} {o : Nat} {S : Hp} {x1 : Int32} {x2 : Int32} {x3 : Int32} {x4 : Int32} (K : Kx E cX8_caughtBy RX8 (rmd 2 0 0)) (X : Bx E l yX8_caughtBy 5 (some .int) 0 0 ad (QI res)) (hk5 : ∀ (S : Hp) (x3 : Int32) (x4 : Int32), k5 S x3 x4 = some res → J E 0 0 5 [(0, vR (some o)), (1, vI x1), (2, vI x2), (3, vI x3), (4, vI x4)] [] S ad) (h : L_X8_caughtBy_5 k5 fu o x1 x2 S x3 x4 = some res) : J E 0 0 5 [(0, vR (some o)), (1, vI x1), (2, vI x2), (3, vI x3), (4, vI x4)] [] S ad := by
  refine j_iload K dX8_caughtBy_5 4 rfl ?_
  refine j_aload_n K dX8_caughtBy_7 rfl 0 rfl ?_
  obtain ⟨v8, e8, h⟩ := bd h
  refine fgX8_84 K dX8_caughtBy_8 e8 ?_
  refine j_icmp_ge K dX8_caughtBy_11 (fun c11 => ?_) (fun c11 => ?_)
  · replace h := it c11 h
    refine j_iload_n K dX8_caughtBy_48 rfl 3 rfl ?_
    exact j_iret K X dX8_caughtBy_49 h
  · replace h := ie c11 h
    refine j_iload_n K dX8_caughtBy_14 rfl 3 rfl ?_
    refine j_iload K dX8_caughtBy_15 4 rfl ?_
    refine j_iload_n K dX8_caughtBy_17 rfl 1 rfl ?_
    refine j_icmp_eq K dX8_caughtBy_18 (fun c18 => ?_) (fun c18 => ?_)
    · replace h := it c18 h
      exact j_sub [0, 1, 2, 4] rfl (w_X8_caughtBy_39 K X hk5 h)
    · replace h := ie c18 h
      refine j_aload_n K dX8_caughtBy_21 rfl 0 rfl ?_
      refine j_iload K dX8_caughtBy_22 4 rfl ?_
      refine j_iload_n K dX8_caughtBy_24 rfl 1 rfl ?_
      obtain ⟨w25, ew25, h⟩ := bd h
      have ho25 := obS ew25
      obtain ⟨v25, S25, e25, h⟩ := bd2 h
      refine j_cI (st := [vI x3]) K (r_V (vs := [vI x4, vI x1]) (n := 2) (o := o) K (c_X8_sawOf e25) ho25 (by decide) rfl dX8_caughtBy_25 z1064 z1066 zs44 z13 z1067 ⟨zd_X8_sawOf, rfl, rfl, rfl, ⟨Nat.le_of_ble_eq_true rfl, Nat.le_of_ble_eq_true rfl⟩, Nat.le_of_ble_eq_true rfl, Nat.le_of_ble_eq_true rfl, Nat.le_of_ble_eq_true rfl⟩) rfl ?_
      refine j_iload_n K dX8_caughtBy_28 rfl 2 rfl ?_
      refine j_icmp_le K dX8_caughtBy_29 (fun c29 => ?_) (fun c29 => ?_)
      · replace h := it c29 h
        exact j_sub [0, 1, 2, 4] rfl (w_X8_caughtBy_39 K X hk5 h)
      · replace h := ie c29 h
        refine j_iconst (v := (1 : Int32)) K dX8_caughtBy_32 (by decide) ?_
        refine j_iload K dX8_caughtBy_33 4 rfl ?_
        refine j_ishl K dX8_caughtBy_35 ?_
        refine j_goto K dX8_caughtBy_36 ?_
        exact j_sub [0, 1, 2, 4] rfl (w_X8_caughtBy_40 K X hk5 h)
def B_X8_caughtBy_5 (fu : Nat) (o : Nat) (x1 : Int32) (x2 : Int32) : Nat → Hp → Int32 → Int32 → Option (Int32 × Hp)
  | 0 => fun _ _ _ => none
  | n + 1 => L_X8_caughtBy_5 (B_X8_caughtBy_5 fu o x1 x2 n) fu o x1 x2
theorem w_X8_caughtBy_5 {E : Cx} {l : Launch} {res : Int32 × Hp} {ad : Nat → Nat} {fu : Nat} {o : Nat} {x1 : Int32} {x2 : Int32} (K : Kx E cX8_caughtBy RX8 (rmd 2 0 0)) (X : Bx E l yX8_caughtBy 5 (some .int) 0 0 ad (QI res)) : ∀ (n : Nat) (S : Hp) (x3 : Int32) (x4 : Int32), B_X8_caughtBy_5 fu o x1 x2 n S x3 x4 = some res → J E 0 0 5 [(0, vR (some o)), (1, vI x1), (2, vI x2), (3, vI x3), (4, vI x4)] [] S ad := by
  intro n
  induction n with
  | zero =>
    intro S x3 x4 h
    cases h
  | succ n ih =>
    intro S x3 x4 h
    exact wl_X8_caughtBy_5 K X ih h
def F_X8_caughtBy (fu : Nat) (S : Hp) (o : Nat) (x1 : Int32) (x2 : Int32) : Option (Int32 × Hp) :=
  B_X8_caughtBy_5 fu o x1 x2 fu S (0 : Int32) (0 : Int32)
set_option maxRecDepth 100000 in
set_option maxHeartbeats 4000000 in
theorem w_X8_caughtBy {E : Cx} {l : Launch} {res : Int32 × Hp} {ad : Nat → Nat} {fu : Nat} {S : Hp} {o : Nat} {x1 : Int32} {x2 : Int32} (K : Kx E cX8_caughtBy RX8 (rmd 2 0 0)) (X : Bx E l yX8_caughtBy 5 (some .int) 0 0 ad (QI res)) (h : F_X8_caughtBy fu S o x1 x2 = some res) : J E 0 0 0 [(0, vR (some o)), (1, vI x1), (2, vI x2)] [] S ad := by
  refine j_iconst (v := (0 : Int32)) K dX8_caughtBy_0 (by decide) ?_
  refine j_istore_n (lv' := [(3, vI (0 : Int32)), (0, vR (some o)), (1, vI x1), (2, vI x2)]) K dX8_caughtBy_1 rfl X.2.2.1 (by decide) rfl ?_
  refine j_iconst (v := (0 : Int32)) K dX8_caughtBy_2 (by decide) ?_
  refine j_istore (lv' := [(4, vI (0 : Int32)), (3, vI (0 : Int32)), (0, vR (some o)), (1, vI x1), (2, vI x2)]) K dX8_caughtBy_3 X.2.2.1 (by decide) rfl ?_
  exact j_sub [2, 3, 4, 1, 0] rfl (w_X8_caughtBy_5 K X _ _ _ _ h)
theorem c_X8_caughtBy {l : Launch} {fu : Nat} {S : Hp} {o : Nat} {x1 : Int32} {x2 : Int32} {res : Int32 × Hp} (h : F_X8_caughtBy fu S o x1 x2 = some res) : Ct l yX8_caughtBy cX8_caughtBy 5 (some .int) (rmd 2 0 0) 0 0 [vR (some o), vI x1, vI x2] S (QI res) :=
  z_entry (by decide +kernel) (Nat.le_of_ble_eq_true rfl) (fun E ad K X => w_X8_caughtBy K X h)

theorem dX8_lossOf_0 : decode cX8_lossOf 0 = .ok (.iconst 0, 1) ∧ 0 + 1 = 1 := ⟨by decide +kernel, rfl⟩
theorem dX8_lossOf_1 : decode cX8_lossOf 1 = .ok (.istore_n 3, 1) ∧ 1 + 1 = 2 := ⟨by decide +kernel, rfl⟩
theorem dX8_lossOf_2 : decode cX8_lossOf 2 = .ok (.iconst 0, 1) ∧ 2 + 1 = 3 := ⟨by decide +kernel, rfl⟩
theorem dX8_lossOf_3 : decode cX8_lossOf 3 = .ok (.istore 4, 2) ∧ 3 + 2 = 5 := ⟨by decide +kernel, rfl⟩
theorem dX8_lossOf_5 : decode cX8_lossOf 5 = .ok (.iload 4, 2) ∧ 5 + 2 = 7 := ⟨by decide +kernel, rfl⟩
theorem dX8_lossOf_7 : decode cX8_lossOf 7 = .ok (.aload_n 0, 1) ∧ 7 + 1 = 8 := ⟨by decide +kernel, rfl⟩
theorem dX8_lossOf_8 : decode cX8_lossOf 8 = .ok (.getfield 84, 3) ∧ 8 + 3 = 11 := ⟨by decide +kernel, rfl⟩
theorem dX8_lossOf_11 : decode cX8_lossOf 11 = .ok (.if_icmp .ge 59, 3) ∧ 11 + 3 = 14 ∧ ((11 : Nat) : Int) + (59) = ((70 : Nat) : Int) := ⟨by decide +kernel, rfl, by decide⟩
theorem dX8_lossOf_14 : decode cX8_lossOf 14 = .ok (.aload_n 0, 1) ∧ 14 + 1 = 15 := ⟨by decide +kernel, rfl⟩
theorem dX8_lossOf_15 : decode cX8_lossOf 15 = .ok (.iload 4, 2) ∧ 15 + 2 = 17 := ⟨by decide +kernel, rfl⟩
theorem dX8_lossOf_17 : decode cX8_lossOf 17 = .ok (.iload_n 1, 1) ∧ 17 + 1 = 18 := ⟨by decide +kernel, rfl⟩
theorem dX8_lossOf_18 : decode cX8_lossOf 18 = .ok (.invokevirtual 202, 3) := by decide +kernel
theorem dX8_lossOf_21 : decode cX8_lossOf 21 = .ok (.iload_n 2, 1) ∧ 21 + 1 = 22 := ⟨by decide +kernel, rfl⟩
theorem dX8_lossOf_22 : decode cX8_lossOf 22 = .ok (.isub, 1) ∧ 22 + 1 = 23 := ⟨by decide +kernel, rfl⟩
theorem dX8_lossOf_23 : decode cX8_lossOf 23 = .ok (.istore 5, 2) ∧ 23 + 2 = 25 := ⟨by decide +kernel, rfl⟩
theorem dX8_lossOf_25 : decode cX8_lossOf 25 = .ok (.iload_n 3, 1) ∧ 25 + 1 = 26 := ⟨by decide +kernel, rfl⟩
theorem dX8_lossOf_26 : decode cX8_lossOf 26 = .ok (.iload 4, 2) ∧ 26 + 2 = 28 := ⟨by decide +kernel, rfl⟩
theorem dX8_lossOf_28 : decode cX8_lossOf 28 = .ok (.iload_n 1, 1) ∧ 28 + 1 = 29 := ⟨by decide +kernel, rfl⟩
theorem dX8_lossOf_29 : decode cX8_lossOf 29 = .ok (.if_icmp .eq 32, 3) ∧ 29 + 3 = 32 ∧ ((29 : Nat) : Int) + (32) = ((61 : Nat) : Int) := ⟨by decide +kernel, rfl, by decide⟩
theorem dX8_lossOf_32 : decode cX8_lossOf 32 = .ok (.iload 5, 2) ∧ 32 + 2 = 34 := ⟨by decide +kernel, rfl⟩
theorem dX8_lossOf_34 : decode cX8_lossOf 34 = .ok (.ifCond .le 27, 3) ∧ 34 + 3 = 37 ∧ ((34 : Nat) : Int) + (27) = ((61 : Nat) : Int) := ⟨by decide +kernel, rfl, by decide⟩
theorem dX8_lossOf_37 : decode cX8_lossOf 37 = .ok (.aload_n 0, 1) ∧ 37 + 1 = 38 := ⟨by decide +kernel, rfl⟩
theorem dX8_lossOf_38 : decode cX8_lossOf 38 = .ok (.iload 4, 2) ∧ 38 + 2 = 40 := ⟨by decide +kernel, rfl⟩
theorem dX8_lossOf_40 : decode cX8_lossOf 40 = .ok (.aload_n 0, 1) ∧ 40 + 1 = 41 := ⟨by decide +kernel, rfl⟩
theorem dX8_lossOf_41 : decode cX8_lossOf 41 = .ok (.iload 4, 2) ∧ 41 + 2 = 43 := ⟨by decide +kernel, rfl⟩
theorem dX8_lossOf_43 : decode cX8_lossOf 43 = .ok (.iload_n 1, 1) ∧ 43 + 1 = 44 := ⟨by decide +kernel, rfl⟩
theorem dX8_lossOf_44 : decode cX8_lossOf 44 = .ok (.invokevirtual 205, 3) := by decide +kernel
theorem dX8_lossOf_47 : decode cX8_lossOf 47 = .ok (.iconst 0, 1) ∧ 47 + 1 = 48 := ⟨by decide +kernel, rfl⟩
theorem dX8_lossOf_48 : decode cX8_lossOf 48 = .ok (.bipush 9, 2) ∧ 48 + 2 = 50 := ⟨by decide +kernel, rfl⟩
theorem dX8_lossOf_50 : decode cX8_lossOf 50 = .ok (.invokestatic 179, 3) := by decide +kernel
theorem dX8_lossOf_53 : decode cX8_lossOf 53 = .ok (.iload 5, 2) ∧ 53 + 2 = 55 := ⟨by decide +kernel, rfl⟩
theorem dX8_lossOf_55 : decode cX8_lossOf 55 = .ok (.invokevirtual 208, 3) := by decide +kernel
theorem dX8_lossOf_58 : decode cX8_lossOf 58 = .ok (.goto 4, 3) ∧ ((58 : Nat) : Int) + (4) = ((62 : Nat) : Int) := ⟨by decide +kernel, by decide⟩
theorem dX8_lossOf_61 : decode cX8_lossOf 61 = .ok (.iconst 0, 1) ∧ 61 + 1 = 62 := ⟨by decide +kernel, rfl⟩
theorem dX8_lossOf_62 : decode cX8_lossOf 62 = .ok (.iadd, 1) ∧ 62 + 1 = 63 := ⟨by decide +kernel, rfl⟩
theorem dX8_lossOf_63 : decode cX8_lossOf 63 = .ok (.istore_n 3, 1) ∧ 63 + 1 = 64 := ⟨by decide +kernel, rfl⟩
theorem dX8_lossOf_64 : decode cX8_lossOf 64 = .ok (.iinc 4 1, 3) ∧ 64 + 3 = 67 := ⟨by decide +kernel, rfl⟩
theorem dX8_lossOf_67 : decode cX8_lossOf 67 = .ok (.goto (-62), 3) ∧ ((67 : Nat) : Int) + (-62) = ((5 : Nat) : Int) := ⟨by decide +kernel, by decide⟩
theorem dX8_lossOf_70 : decode cX8_lossOf 70 = .ok (.iload_n 3, 1) ∧ 70 + 1 = 71 := ⟨by decide +kernel, rfl⟩
theorem dX8_lossOf_71 : decode cX8_lossOf 71 = .ok (.ireturn, 1) := by decide +kernel
def B_X8_lossOf_62 (k5 : Hp → Int32 → Int32 → Option (Int32 × Hp)) (fu : Nat) (o : Nat) (S : Hp) (x1 : Int32) (x2 : Int32) (x4 : Int32) (s0 : Int32) (s1 : Int32) : Option (Int32 × Hp) :=
  k5 S (s1 + s0) (x4 + (1 : Int32))
set_option maxRecDepth 100000 in
set_option maxHeartbeats 4000000 in
theorem w_X8_lossOf_62 {E : Cx} {l : Launch} {res : Int32 × Hp} {ad : Nat → Nat} {k5 : Hp → Int32 → Int32 → Option (Int32 × Hp)} {fu : Nat} {o : Nat} {S : Hp} {x1 : Int32} {x2 : Int32} {x4 : Int32} {s0 : Int32} {s1 : Int32} (K : Kx E cX8_lossOf RX8 (rmd 4 0 0)) (X : Bx E l yX8_lossOf 6 (some .int) 0 0 ad (QI res)) (hk5 : ∀ (S : Hp) (x3 : Int32) (x4 : Int32), k5 S x3 x4 = some res → J E 0 0 5 [(0, vR (some o)), (1, vI x1), (2, vI x2), (3, vI x3), (4, vI x4)] [] S ad) (h : B_X8_lossOf_62 k5 fu o S x1 x2 x4 s0 s1 = some res) : J E 0 0 62 [(0, vR (some o)), (1, vI x1), (2, vI x2), (4, vI x4)] [vI s0, vI s1] S ad := by
  refine j_iadd K dX8_lossOf_62 ?_
  refine j_istore_n (lv' := [(3, vI (s1 + s0)), (0, vR (some o)), (1, vI x1), (2, vI x2), (4, vI x4)]) K dX8_lossOf_63 rfl X.2.2.1 (by decide) rfl ?_
  refine j_iinc (q := 4) (v := (x4 + (1 : Int32))) (lv' := [(4, vI (x4 + (1 : Int32))), (3, vI (s1 + s0)), (0, vR (some o)), (1, vI x1), (2, vI x2)]) K dX8_lossOf_64 rfl rfl X.2.2.1 (by decide) rfl ?_
  refine j_goto K dX8_lossOf_67 ?_
  exact j_sub [2, 3, 4, 1, 0] rfl (hk5 _ _ _ h)
def B_X8_lossOf_61 (k5 : Hp → Int32 → Int32 → Option (Int32 × Hp)) (fu : Nat) (o : Nat) (S : Hp) (x1 : Int32) (x2 : Int32) (x4 : Int32) (s0 : Int32) : Option (Int32 × Hp) :=
  B_X8_lossOf_62 k5 fu o S x1 x2 x4 (0 : Int32) s0
set_option maxRecDepth 100000 in
set_option maxHeartbeats 4000000 in
theorem w_X8_lossOf_61 {E : Cx} {l : Launch} {res : Int32 × Hp} {ad : Nat → Nat} {k5 : Hp → Int32 → Int32 → Option (Int32 × Hp)} {fu : Nat} {o : Nat} {S : Hp} {x1 : Int32} {x2 : Int32} {x4 : Int32} {s0 : Int32} (K : Kx E cX8_lossOf RX8 (rmd 4 0 0)) (X : Bx E l yX8_lossOf 6 (some .int) 0 0 ad (QI res)) (hk5 : ∀ (S : Hp) (x3 : Int32) (x4 : Int32), k5 S x3 x4 = some res → J E 0 0 5 [(0, vR (some o)), (1, vI x1), (2, vI x2), (3, vI x3), (4, vI x4)] [] S ad) (h : B_X8_lossOf_61 k5 fu o S x1 x2 x4 s0 = some res) : J E 0 0 61 [(0, vR (some o)), (1, vI x1), (2, vI x2), (4, vI x4)] [vI s0] S ad := by
  refine j_iconst (v := (0 : Int32)) K dX8_lossOf_61 (by decide) ?_
  exact w_X8_lossOf_62 K X hk5 h
def L_X8_lossOf_5 (k5 : Hp → Int32 → Int32 → Option (Int32 × Hp)) (fu : Nat) (o : Nat) (x1 : Int32) (x2 : Int32) (S : Hp) (x3 : Int32) (x4 : Int32) : Option (Int32 × Hp) :=
  (gI S (some o) 6 0).bind fun v8 =>
  if v8 ≤ x4 then
    some (x3, S)
  else
    (ob S 6 (some o)).bind fun _ =>
    b2 (F_X8_sawOf fu S o x4 x1) fun v18 S18 =>
    if x4 = x1 then
      B_X8_lossOf_61 k5 fu o S18 x1 x2 x4 x3
    else
      if (v18 - x2) ≤ 0 then
        B_X8_lossOf_61 k5 fu o S18 x1 x2 x4 x3
      else
        (ob S18 6 (some o)).bind fun _ =>
        b2 (F_X8_lastSeen fu S18 o x4 x1) fun v44 S44 =>
        b2 (F_X8_within S44 v44 (0 : Int32) (9 : Int32)) fun v50 S50 =>
        (ob S50 6 (some o)).bind fun _ =>
        b2 (F_X8_doubtsOf fu S50 o x4 v50 (v18 - x2)) fun v55 S55 =>
        B_X8_lossOf_62 k5 fu o S55 x1 x2 x4 v55 x3
set_option maxRecDepth 100000 in
set_option maxHeartbeats 4000000 in
theorem wl_X8_lossOf_5 {E : Cx} {l : Launch} {res : Int32 × Hp} {ad : Nat → Nat} {k5 : Hp → Int32 → Int32 → Option (Int32 × Hp)} {fu : Nat} {o : Nat} {S : Hp} {x1 : Int32} {x2 : Int32} {x3 : Int32} {x4 : Int32} (K : Kx E cX8_lossOf RX8 (rmd 4 0 0)) (X : Bx E l yX8_lossOf 6 (some .int) 0 0 ad (QI res)) (hk5 : ∀ (S : Hp) (x3 : Int32) (x4 : Int32), k5 S x3 x4 = some res → J E 0 0 5 [(0, vR (some o)), (1, vI x1), (2, vI x2), (3, vI x3), (4, vI x4)] [] S ad) (h : L_X8_lossOf_5 k5 fu o x1 x2 S x3 x4 = some res) : J E 0 0 5 [(0, vR (some o)), (1, vI x1), (2, vI x2), (3, vI x3), (4, vI x4)] [] S ad := by
  refine j_iload K dX8_lossOf_5 4 rfl ?_
  refine j_aload_n K dX8_lossOf_7 rfl 0 rfl ?_
  obtain ⟨v8, e8, h⟩ := bd h
  refine fgX8_84 K dX8_lossOf_8 e8 ?_
  refine j_icmp_ge K dX8_lossOf_11 (fun c11 => ?_) (fun c11 => ?_)
  · replace h := it c11 h
    refine j_iload_n K dX8_lossOf_70 rfl 3 rfl ?_
    exact j_iret K X dX8_lossOf_71 h
  · replace h := ie c11 h
    refine j_aload_n K dX8_lossOf_14 rfl 0 rfl ?_
    refine j_iload K dX8_lossOf_15 4 rfl ?_
    refine j_iload_n K dX8_lossOf_17 rfl 1 rfl ?_
    obtain ⟨w18, ew18, h⟩ := bd h
    have ho18 := obS ew18
    obtain ⟨v18, S18, e18, h⟩ := bd2 h
    refine j_cI (st := []) K (r_V (vs := [vI x4, vI x1]) (n := 2) (o := o) K (c_X8_sawOf e18) ho18 (by decide) rfl dX8_lossOf_18 z1064 z1066 zs44 z13 z1067 ⟨zd_X8_sawOf, rfl, rfl, rfl, ⟨Nat.le_of_ble_eq_true rfl, Nat.le_of_ble_eq_true rfl⟩, Nat.le_of_ble_eq_true rfl, Nat.le_of_ble_eq_true rfl, Nat.le_of_ble_eq_true rfl⟩) rfl ?_
    refine j_iload_n K dX8_lossOf_21 rfl 2 rfl ?_
    refine j_isub K dX8_lossOf_22 ?_
    refine j_istore (lv' := [(5, vI (v18 - x2)), (0, vR (some o)), (1, vI x1), (2, vI x2), (3, vI x3), (4, vI x4)]) K dX8_lossOf_23 X.2.2.1 (by decide) rfl ?_
    refine j_iload_n K dX8_lossOf_25 rfl 4 rfl ?_
    refine j_iload K dX8_lossOf_26 5 rfl ?_
    refine j_iload_n K dX8_lossOf_28 rfl 2 rfl ?_
    refine j_icmp_eq K dX8_lossOf_29 (fun c29 => ?_) (fun c29 => ?_)
    · replace h := it c29 h
      exact j_sub [1, 2, 3, 5] rfl (w_X8_lossOf_61 K X hk5 h)
    · replace h := ie c29 h
      refine j_iload K dX8_lossOf_32 0 rfl ?_
      refine j_if_le K dX8_lossOf_34 (fun c34 => ?_) (fun c34 => ?_)
      · replace h := it c34 h
        exact j_sub [1, 2, 3, 5] rfl (w_X8_lossOf_61 K X hk5 h)
      · replace h := ie c34 h
        refine j_aload_n K dX8_lossOf_37 rfl 1 rfl ?_
        refine j_iload K dX8_lossOf_38 5 rfl ?_
        refine j_aload_n K dX8_lossOf_40 rfl 1 rfl ?_
        refine j_iload K dX8_lossOf_41 5 rfl ?_
        refine j_iload_n K dX8_lossOf_43 rfl 2 rfl ?_
        obtain ⟨w44, ew44, h⟩ := bd h
        have ho44 := obS ew44
        obtain ⟨v44, S44, e44, h⟩ := bd2 h
        refine j_cI (st := [vI x4, vR (some o), vI x3]) K (r_V (vs := [vI x4, vI x1]) (n := 2) (o := o) K (c_X8_lastSeen e44) ho44 (by decide) rfl dX8_lossOf_44 z1072 z1074 zs46 z13 z1075 ⟨zd_X8_lastSeen, rfl, rfl, rfl, ⟨Nat.le_of_ble_eq_true rfl, Nat.le_of_ble_eq_true rfl⟩, Nat.le_of_ble_eq_true rfl, Nat.le_of_ble_eq_true rfl, Nat.le_of_ble_eq_true rfl⟩) rfl ?_
        refine j_iconst (v := (0 : Int32)) K dX8_lossOf_47 (by decide) ?_
        refine j_bipush (v := (9 : Int32)) K dX8_lossOf_48 (by decide) ?_
        obtain ⟨v50, S50, e50, h⟩ := bd2 h
        refine j_cI (st := [vI x4, vR (some o), vI x3]) K (r_S (vs := [vI v44, vI (0 : Int32), vI (9 : Int32)]) (n := 3) K (c_X8_within e50) dX8_lossOf_50 z1021 z1022 z13 z1023 ⟨zd_X8_within, rfl, rfl, rfl, ⟨Nat.le_of_ble_eq_true rfl, Nat.le_of_ble_eq_true rfl⟩, Nat.le_of_ble_eq_true rfl, Nat.le_of_ble_eq_true rfl, Nat.le_of_ble_eq_true rfl⟩) rfl ?_
        refine j_iload K dX8_lossOf_53 0 rfl ?_
        obtain ⟨w55, ew55, h⟩ := bd h
        have ho55 := obS ew55
        obtain ⟨v55, S55, e55, h⟩ := bd2 h
        refine j_cI (st := [vI x3]) K (r_V (vs := [vI x4, vI v50, vI (v18 - x2)]) (n := 3) (o := o) K (c_X8_doubtsOf e55) ho55 (by decide) rfl dX8_lossOf_55 z1076 z1078 zs47 z13 z1079 ⟨zd_X8_doubtsOf, rfl, rfl, rfl, ⟨Nat.le_of_ble_eq_true rfl, Nat.le_of_ble_eq_true rfl⟩, Nat.le_of_ble_eq_true rfl, Nat.le_of_ble_eq_true rfl, Nat.le_of_ble_eq_true rfl⟩) rfl ?_
        refine j_goto K dX8_lossOf_58 ?_
        exact j_sub [1, 2, 3, 5] rfl (w_X8_lossOf_62 K X hk5 h)
def B_X8_lossOf_5 (fu : Nat) (o : Nat) (x1 : Int32) (x2 : Int32) : Nat → Hp → Int32 → Int32 → Option (Int32 × Hp)
  | 0 => fun _ _ _ => none
  | n + 1 => L_X8_lossOf_5 (B_X8_lossOf_5 fu o x1 x2 n) fu o x1 x2
theorem w_X8_lossOf_5 {E : Cx} {l : Launch} {res : Int32 × Hp} {ad : Nat → Nat} {fu : Nat} {o : Nat} {x1 : Int32} {x2 : Int32} (K : Kx E cX8_lossOf RX8 (rmd 4 0 0)) (X : Bx E l yX8_lossOf 6 (some .int) 0 0 ad (QI res)) : ∀ (n : Nat) (S : Hp) (x3 : Int32) (x4 : Int32), B_X8_lossOf_5 fu o x1 x2 n S x3 x4 = some res → J E 0 0 5 [(0, vR (some o)), (1, vI x1), (2, vI x2), (3, vI x3), (4, vI x4)] [] S ad := by
  intro n
  induction n with
  | zero =>
    intro S x3 x4 h
    cases h
  | succ n ih =>
    intro S x3 x4 h
    exact wl_X8_lossOf_5 K X ih h
def F_X8_lossOf (fu : Nat) (S : Hp) (o : Nat) (x1 : Int32) (x2 : Int32) : Option (Int32 × Hp) :=
  B_X8_lossOf_5 fu o x1 x2 fu S (0 : Int32) (0 : Int32)
set_option maxRecDepth 100000 in
set_option maxHeartbeats 4000000 in
theorem w_X8_lossOf {E : Cx} {l : Launch} {res : Int32 × Hp} {ad : Nat → Nat} {fu : Nat} {S : Hp} {o : Nat} {x1 : Int32} {x2 : Int32} (K : Kx E cX8_lossOf RX8 (rmd 4 0 0)) (X : Bx E l yX8_lossOf 6 (some .int) 0 0 ad (QI res)) (h : F_X8_lossOf fu S o x1 x2 = some res) : J E 0 0 0 [(0, vR (some o)), (1, vI x1), (2, vI x2)] [] S ad := by
  refine j_iconst (v := (0 : Int32)) K dX8_lossOf_0 (by decide) ?_
  refine j_istore_n (lv' := [(3, vI (0 : Int32)), (0, vR (some o)), (1, vI x1), (2, vI x2)]) K dX8_lossOf_1 rfl X.2.2.1 (by decide) rfl ?_
  refine j_iconst (v := (0 : Int32)) K dX8_lossOf_2 (by decide) ?_
  refine j_istore (lv' := [(4, vI (0 : Int32)), (3, vI (0 : Int32)), (0, vR (some o)), (1, vI x1), (2, vI x2)]) K dX8_lossOf_3 X.2.2.1 (by decide) rfl ?_
  exact j_sub [2, 3, 4, 1, 0] rfl (w_X8_lossOf_5 K X _ _ _ _ h)
theorem c_X8_lossOf {l : Launch} {fu : Nat} {S : Hp} {o : Nat} {x1 : Int32} {x2 : Int32} {res : Int32 × Hp} (h : F_X8_lossOf fu S o x1 x2 = some res) : Ct l yX8_lossOf cX8_lossOf 6 (some .int) (rmd 4 0 0) 0 0 [vR (some o), vI x1, vI x2] S (QI res) :=
  z_entry (by decide +kernel) (Nat.le_of_ble_eq_true rfl) (fun E ad K X => w_X8_lossOf K X h)

theorem dX8_thoughtOf_0 : decode cX8_thoughtOf 0 = .ok (.aload_n 0, 1) ∧ 0 + 1 = 1 := ⟨by decide +kernel, rfl⟩
theorem dX8_thoughtOf_1 : decode cX8_thoughtOf 1 = .ok (.getfield 16, 3) ∧ 1 + 3 = 4 := ⟨by decide +kernel, rfl⟩
theorem dX8_thoughtOf_4 : decode cX8_thoughtOf 4 = .ok (.iconst 2, 1) ∧ 4 + 1 = 5 := ⟨by decide +kernel, rfl⟩
theorem dX8_thoughtOf_5 : decode cX8_thoughtOf 5 = .ok (.iload_n 1, 1) ∧ 5 + 1 = 6 := ⟨by decide +kernel, rfl⟩
theorem dX8_thoughtOf_6 : decode cX8_thoughtOf 6 = .ok (.imul, 1) ∧ 6 + 1 = 7 := ⟨by decide +kernel, rfl⟩
theorem dX8_thoughtOf_7 : decode cX8_thoughtOf 7 = .ok (.iconst 1, 1) ∧ 7 + 1 = 8 := ⟨by decide +kernel, rfl⟩
theorem dX8_thoughtOf_8 : decode cX8_thoughtOf 8 = .ok (.iadd, 1) ∧ 8 + 1 = 9 := ⟨by decide +kernel, rfl⟩
theorem dX8_thoughtOf_9 : decode cX8_thoughtOf 9 = .ok (.iaload, 1) ∧ 9 + 1 = 10 := ⟨by decide +kernel, rfl⟩
theorem dX8_thoughtOf_10 : decode cX8_thoughtOf 10 = .ok (.iload_n 2, 1) ∧ 10 + 1 = 11 := ⟨by decide +kernel, rfl⟩
theorem dX8_thoughtOf_11 : decode cX8_thoughtOf 11 = .ok (.isub, 1) ∧ 11 + 1 = 12 := ⟨by decide +kernel, rfl⟩
theorem dX8_thoughtOf_12 : decode cX8_thoughtOf 12 = .ok (.aload_n 0, 1) ∧ 12 + 1 = 13 := ⟨by decide +kernel, rfl⟩
theorem dX8_thoughtOf_13 : decode cX8_thoughtOf 13 = .ok (.iload_n 1, 1) ∧ 13 + 1 = 14 := ⟨by decide +kernel, rfl⟩
theorem dX8_thoughtOf_14 : decode cX8_thoughtOf 14 = .ok (.iload_n 2, 1) ∧ 14 + 1 = 15 := ⟨by decide +kernel, rfl⟩
theorem dX8_thoughtOf_15 : decode cX8_thoughtOf 15 = .ok (.invokevirtual 211, 3) := by decide +kernel
theorem dX8_thoughtOf_18 : decode cX8_thoughtOf 18 = .ok (.isub, 1) ∧ 18 + 1 = 19 := ⟨by decide +kernel, rfl⟩
theorem dX8_thoughtOf_19 : decode cX8_thoughtOf 19 = .ok (.iconst 0, 1) ∧ 19 + 1 = 20 := ⟨by decide +kernel, rfl⟩
theorem dX8_thoughtOf_20 : decode cX8_thoughtOf 20 = .ok (.sipush 999, 3) ∧ 20 + 3 = 23 := ⟨by decide +kernel, rfl⟩
theorem dX8_thoughtOf_23 : decode cX8_thoughtOf 23 = .ok (.invokestatic 179, 3) := by decide +kernel
theorem dX8_thoughtOf_26 : decode cX8_thoughtOf 26 = .ok (.ireturn, 1) := by decide +kernel
def F_X8_thoughtOf (fu : Nat) (S : Hp) (o : Nat) (x1 : Int32) (x2 : Int32) : Option (Int32 × Hp) :=
  (gR S (some o) 6 3).bind fun v1 =>
  (aG S v1 (((2 : Int32) * x1) + (1 : Int32))).bind fun v9 =>
  (ob S 6 (some o)).bind fun _ =>
  b2 (F_X8_lossOf fu S o x1 x2) fun v15 S15 =>
  b2 (F_X8_within S15 ((v9 - x2) - v15) (0 : Int32) (999 : Int32)) fun v23 S23 =>
  some (v23, S23)
set_option maxRecDepth 100000 in
set_option maxHeartbeats 4000000 in
theorem w_X8_thoughtOf {E : Cx} {l : Launch} {res : Int32 × Hp} {ad : Nat → Nat} {fu : Nat} {S : Hp} {o : Nat} {x1 : Int32} {x2 : Int32} (K : Kx E cX8_thoughtOf RX8 (rmd 5 0 0)) (X : Bx E l yX8_thoughtOf 3 (some .int) 0 0 ad (QI res)) (h : F_X8_thoughtOf fu S o x1 x2 = some res) : J E 0 0 0 [(0, vR (some o)), (1, vI x1), (2, vI x2)] [] S ad := by
  refine j_aload_n K dX8_thoughtOf_0 rfl 0 rfl ?_
  obtain ⟨v1, e1, h⟩ := bd h
  refine fgX8_16 K dX8_thoughtOf_1 e1 ?_
  refine j_iconst (v := (2 : Int32)) K dX8_thoughtOf_4 (by decide) ?_
  refine j_iload_n K dX8_thoughtOf_5 rfl 1 rfl ?_
  refine j_imul K dX8_thoughtOf_6 ?_
  refine j_iconst (v := (1 : Int32)) K dX8_thoughtOf_7 (by decide) ?_
  refine j_iadd K dX8_thoughtOf_8 ?_
  obtain ⟨v9, e9, h⟩ := bd h
  refine j_aG K dX8_thoughtOf_9 e9 ?_
  refine j_iload_n K dX8_thoughtOf_10 rfl 2 rfl ?_
  refine j_isub K dX8_thoughtOf_11 ?_
  refine j_aload_n K dX8_thoughtOf_12 rfl 0 rfl ?_
  refine j_iload_n K dX8_thoughtOf_13 rfl 1 rfl ?_
  refine j_iload_n K dX8_thoughtOf_14 rfl 2 rfl ?_
  obtain ⟨w15, ew15, h⟩ := bd h
  have ho15 := obS ew15
  obtain ⟨v15, S15, e15, h⟩ := bd2 h
  refine j_cI (st := [vI (v9 - x2)]) K (r_V (vs := [vI x1, vI x2]) (n := 2) (o := o) K (c_X8_lossOf e15) ho15 (by decide) rfl dX8_thoughtOf_15 z1068 z1070 zs45 z13 z1071 ⟨zd_X8_lossOf, rfl, rfl, rfl, ⟨Nat.le_of_ble_eq_true rfl, Nat.le_of_ble_eq_true rfl⟩, Nat.le_of_ble_eq_true rfl, Nat.le_of_ble_eq_true rfl, Nat.le_of_ble_eq_true rfl⟩) rfl ?_
  refine j_isub K dX8_thoughtOf_18 ?_
  refine j_iconst (v := (0 : Int32)) K dX8_thoughtOf_19 (by decide) ?_
  refine j_sipush (v := (999 : Int32)) K dX8_thoughtOf_20 (by decide) ?_
  obtain ⟨v23, S23, e23, h⟩ := bd2 h
  refine j_cI (st := []) K (r_S (vs := [vI ((v9 - x2) - v15), vI (0 : Int32), vI (999 : Int32)]) (n := 3) K (c_X8_within e23) dX8_thoughtOf_23 z1021 z1022 z13 z1023 ⟨zd_X8_within, rfl, rfl, rfl, ⟨Nat.le_of_ble_eq_true rfl, Nat.le_of_ble_eq_true rfl⟩, Nat.le_of_ble_eq_true rfl, Nat.le_of_ble_eq_true rfl, Nat.le_of_ble_eq_true rfl⟩) rfl ?_
  exact j_iret K X dX8_thoughtOf_26 h
theorem c_X8_thoughtOf {l : Launch} {fu : Nat} {S : Hp} {o : Nat} {x1 : Int32} {x2 : Int32} {res : Int32 × Hp} (h : F_X8_thoughtOf fu S o x1 x2 = some res) : Ct l yX8_thoughtOf cX8_thoughtOf 3 (some .int) (rmd 5 0 0) 0 0 [vR (some o), vI x1, vI x2] S (QI res) :=
  z_entry (by decide +kernel) (Nat.le_of_ble_eq_true rfl) (fun E ad K X => w_X8_thoughtOf K X h)

theorem dX8_dusk_0 : decode cX8_dusk 0 = .ok (.aload_n 0, 1) ∧ 0 + 1 = 1 := ⟨by decide +kernel, rfl⟩
theorem dX8_dusk_1 : decode cX8_dusk 1 = .ok (.iload_n 1, 1) ∧ 1 + 1 = 2 := ⟨by decide +kernel, rfl⟩
theorem dX8_dusk_2 : decode cX8_dusk 2 = .ok (.invokevirtual 182, 3) := by decide +kernel
theorem dX8_dusk_5 : decode cX8_dusk 5 = .ok (.ifCond .ne 6, 3) ∧ 5 + 3 = 8 ∧ ((5 : Nat) : Int) + (6) = ((11 : Nat) : Int) := ⟨by decide +kernel, rfl, by decide⟩
theorem dX8_dusk_8 : decode cX8_dusk 8 = .ok (.bipush (-5), 2) ∧ 8 + 2 = 10 := ⟨by decide +kernel, rfl⟩
theorem dX8_dusk_10 : decode cX8_dusk 10 = .ok (.ireturn, 1) := by decide +kernel
theorem dX8_dusk_11 : decode cX8_dusk 11 = .ok (.aload_n 0, 1) ∧ 11 + 1 = 12 := ⟨by decide +kernel, rfl⟩
theorem dX8_dusk_12 : decode cX8_dusk 12 = .ok (.iload_n 1, 1) ∧ 12 + 1 = 13 := ⟨by decide +kernel, rfl⟩
theorem dX8_dusk_13 : decode cX8_dusk 13 = .ok (.invokevirtual 214, 3) := by decide +kernel
theorem dX8_dusk_16 : decode cX8_dusk 16 = .ok (.istore_n 3, 1) ∧ 16 + 1 = 17 := ⟨by decide +kernel, rfl⟩
theorem dX8_dusk_17 : decode cX8_dusk 17 = .ok (.iload_n 2, 1) ∧ 17 + 1 = 18 := ⟨by decide +kernel, rfl⟩
theorem dX8_dusk_18 : decode cX8_dusk 18 = .ok (.tableswitch 53 0 3 #[30, 32, 39, 46], 30) := by decide +kernel
theorem dX8_dusk_48 : decode cX8_dusk 48 = .ok (.iload_n 3, 1) ∧ 48 + 1 = 49 := ⟨by decide +kernel, rfl⟩
theorem dX8_dusk_49 : decode cX8_dusk 49 = .ok (.ireturn, 1) := by decide +kernel
theorem dX8_dusk_50 : decode cX8_dusk 50 = .ok (.aload_n 0, 1) ∧ 50 + 1 = 51 := ⟨by decide +kernel, rfl⟩
theorem dX8_dusk_51 : decode cX8_dusk 51 = .ok (.iload_n 1, 1) ∧ 51 + 1 = 52 := ⟨by decide +kernel, rfl⟩
theorem dX8_dusk_52 : decode cX8_dusk 52 = .ok (.iload_n 3, 1) ∧ 52 + 1 = 53 := ⟨by decide +kernel, rfl⟩
theorem dX8_dusk_53 : decode cX8_dusk 53 = .ok (.invokevirtual 217, 3) := by decide +kernel
theorem dX8_dusk_56 : decode cX8_dusk 56 = .ok (.ireturn, 1) := by decide +kernel
theorem dX8_dusk_57 : decode cX8_dusk 57 = .ok (.aload_n 0, 1) ∧ 57 + 1 = 58 := ⟨by decide +kernel, rfl⟩
theorem dX8_dusk_58 : decode cX8_dusk 58 = .ok (.iload_n 1, 1) ∧ 58 + 1 = 59 := ⟨by decide +kernel, rfl⟩
theorem dX8_dusk_59 : decode cX8_dusk 59 = .ok (.iload_n 3, 1) ∧ 59 + 1 = 60 := ⟨by decide +kernel, rfl⟩
theorem dX8_dusk_60 : decode cX8_dusk 60 = .ok (.invokevirtual 211, 3) := by decide +kernel
theorem dX8_dusk_63 : decode cX8_dusk 63 = .ok (.ireturn, 1) := by decide +kernel
theorem dX8_dusk_64 : decode cX8_dusk 64 = .ok (.aload_n 0, 1) ∧ 64 + 1 = 65 := ⟨by decide +kernel, rfl⟩
theorem dX8_dusk_65 : decode cX8_dusk 65 = .ok (.iload_n 1, 1) ∧ 65 + 1 = 66 := ⟨by decide +kernel, rfl⟩
theorem dX8_dusk_66 : decode cX8_dusk 66 = .ok (.iload_n 3, 1) ∧ 66 + 1 = 67 := ⟨by decide +kernel, rfl⟩
theorem dX8_dusk_67 : decode cX8_dusk 67 = .ok (.invokevirtual 220, 3) := by decide +kernel
theorem dX8_dusk_70 : decode cX8_dusk 70 = .ok (.ireturn, 1) := by decide +kernel
theorem dX8_dusk_71 : decode cX8_dusk 71 = .ok (.bipush (-7), 2) ∧ 71 + 2 = 73 := ⟨by decide +kernel, rfl⟩
theorem dX8_dusk_73 : decode cX8_dusk 73 = .ok (.ireturn, 1) := by decide +kernel
def F_X8_dusk (fu : Nat) (S : Hp) (o : Nat) (x1 : Int32) (x2 : Int32) : Option (Int32 × Hp) :=
  (ob S 6 (some o)).bind fun _ =>
  b2 (F_X8_isOne S o x1) fun v2 S2 =>
  if v2 = 0 then
    some ((-5 : Int32), S2)
  else
    (ob S2 6 (some o)).bind fun _ =>
    b2 (F_X8_beatsOf fu S2 o x1) fun v13 S13 =>
    if x2 = 0 then
      some (v13, S13)
    else
    if x2 = 1 then
      (ob S13 6 (some o)).bind fun _ =>
      b2 (F_X8_caughtBy fu S13 o x1 v13) fun v53 S53 =>
      some (v53, S53)
    else
    if x2 = 2 then
      (ob S13 6 (some o)).bind fun _ =>
      b2 (F_X8_lossOf fu S13 o x1 v13) fun v60 S60 =>
      some (v60, S60)
    else
    if x2 = 3 then
      (ob S13 6 (some o)).bind fun _ =>
      b2 (F_X8_thoughtOf fu S13 o x1 v13) fun v67 S67 =>
      some (v67, S67)
    else
    some ((-7 : Int32), S13)
set_option maxRecDepth 100000 in
set_option maxHeartbeats 4000000 in
theorem w_X8_dusk {E : Cx} {l : Launch} {res : Int32 × Hp} {ad : Nat → Nat} {fu : Nat} {S : Hp} {o : Nat} {x1 : Int32} {x2 : Int32} (K : Kx E cX8_dusk RX8 (rmd 6 0 0)) (X : Bx E l yX8_dusk 4 (some .int) 0 0 ad (QI res)) (h : F_X8_dusk fu S o x1 x2 = some res) : J E 0 0 0 [(0, vR (some o)), (1, vI x1), (2, vI x2)] [] S ad := by
  refine j_aload_n K dX8_dusk_0 rfl 0 rfl ?_
  refine j_iload_n K dX8_dusk_1 rfl 1 rfl ?_
  obtain ⟨w2, ew2, h⟩ := bd h
  have ho2 := obS ew2
  obtain ⟨v2, S2, e2, h⟩ := bd2 h
  refine j_cI (st := []) K (r_V (vs := [vI x1]) (n := 1) (o := o) K (c_X8_isOne e2) ho2 (by decide) rfl dX8_dusk_2 z1003 z1005 zs35 z13 z1006 ⟨zd_X8_isOne, rfl, rfl, rfl, ⟨Nat.le_of_ble_eq_true rfl, Nat.le_of_ble_eq_true rfl⟩, Nat.le_of_ble_eq_true rfl, Nat.le_of_ble_eq_true rfl, Nat.le_of_ble_eq_true rfl⟩) rfl ?_
  refine j_if_ne K dX8_dusk_5 (fun c5 => ?_) (fun c5 => ?_)
  · replace h := ie c5 h
    refine j_aload_n K dX8_dusk_11 rfl 0 rfl ?_
    refine j_iload_n K dX8_dusk_12 rfl 1 rfl ?_
    obtain ⟨w13, ew13, h⟩ := bd h
    have ho13 := obS ew13
    obtain ⟨v13, S13, e13, h⟩ := bd2 h
    refine j_cI (st := []) K (r_V (vs := [vI x1]) (n := 1) (o := o) K (c_X8_beatsOf e13) ho13 (by decide) rfl dX8_dusk_13 z1052 z1054 zs41 z13 z1055 ⟨zd_X8_beatsOf, rfl, rfl, rfl, ⟨Nat.le_of_ble_eq_true rfl, Nat.le_of_ble_eq_true rfl⟩, Nat.le_of_ble_eq_true rfl, Nat.le_of_ble_eq_true rfl, Nat.le_of_ble_eq_true rfl⟩) rfl ?_
    refine j_istore_n (lv' := [(3, vI v13), (0, vR (some o)), (1, vI x1), (2, vI x2)]) K dX8_dusk_16 rfl X.2.2.1 (by decide) rfl ?_
    refine j_iload_n K dX8_dusk_17 rfl 3 rfl ?_
    by_cases c18_0 : x2 = 0
    · replace h := it c18_0 h
      have t18 : x2.toInt = 0 := by rw [c18_0]; rfl
      refine j_tin (tgt := 48) K dX8_dusk_18 (by rw [t18]; decide) (by rw [t18]; decide) (by rw [t18]; rfl) (by decide) ?_
      refine j_iload_n K dX8_dusk_48 rfl 0 rfl ?_
      exact j_iret K X dX8_dusk_49 h
    replace h := ie c18_0 h
    by_cases c18_1 : x2 = 1
    · replace h := it c18_1 h
      have t18 : x2.toInt = 1 := by rw [c18_1]; rfl
      refine j_tin (tgt := 50) K dX8_dusk_18 (by rw [t18]; decide) (by rw [t18]; decide) (by rw [t18]; rfl) (by decide) ?_
      refine j_aload_n K dX8_dusk_50 rfl 1 rfl ?_
      refine j_iload_n K dX8_dusk_51 rfl 2 rfl ?_
      refine j_iload_n K dX8_dusk_52 rfl 0 rfl ?_
      obtain ⟨w53, ew53, h⟩ := bd h
      have ho53 := obS ew53
      obtain ⟨v53, S53, e53, h⟩ := bd2 h
      refine j_cI (st := []) K (r_V (vs := [vI x1, vI v13]) (n := 2) (o := o) K (c_X8_caughtBy e53) ho53 (by decide) rfl dX8_dusk_53 z1060 z1062 zs43 z13 z1063 ⟨zd_X8_caughtBy, rfl, rfl, rfl, ⟨Nat.le_of_ble_eq_true rfl, Nat.le_of_ble_eq_true rfl⟩, Nat.le_of_ble_eq_true rfl, Nat.le_of_ble_eq_true rfl, Nat.le_of_ble_eq_true rfl⟩) rfl ?_
      exact j_iret K X dX8_dusk_56 h
    replace h := ie c18_1 h
    by_cases c18_2 : x2 = 2
    · replace h := it c18_2 h
      have t18 : x2.toInt = 2 := by rw [c18_2]; rfl
      refine j_tin (tgt := 57) K dX8_dusk_18 (by rw [t18]; decide) (by rw [t18]; decide) (by rw [t18]; rfl) (by decide) ?_
      refine j_aload_n K dX8_dusk_57 rfl 1 rfl ?_
      refine j_iload_n K dX8_dusk_58 rfl 2 rfl ?_
      refine j_iload_n K dX8_dusk_59 rfl 0 rfl ?_
      obtain ⟨w60, ew60, h⟩ := bd h
      have ho60 := obS ew60
      obtain ⟨v60, S60, e60, h⟩ := bd2 h
      refine j_cI (st := []) K (r_V (vs := [vI x1, vI v13]) (n := 2) (o := o) K (c_X8_lossOf e60) ho60 (by decide) rfl dX8_dusk_60 z1068 z1070 zs45 z13 z1071 ⟨zd_X8_lossOf, rfl, rfl, rfl, ⟨Nat.le_of_ble_eq_true rfl, Nat.le_of_ble_eq_true rfl⟩, Nat.le_of_ble_eq_true rfl, Nat.le_of_ble_eq_true rfl, Nat.le_of_ble_eq_true rfl⟩) rfl ?_
      exact j_iret K X dX8_dusk_63 h
    replace h := ie c18_2 h
    by_cases c18_3 : x2 = 3
    · replace h := it c18_3 h
      have t18 : x2.toInt = 3 := by rw [c18_3]; rfl
      refine j_tin (tgt := 64) K dX8_dusk_18 (by rw [t18]; decide) (by rw [t18]; decide) (by rw [t18]; rfl) (by decide) ?_
      refine j_aload_n K dX8_dusk_64 rfl 1 rfl ?_
      refine j_iload_n K dX8_dusk_65 rfl 2 rfl ?_
      refine j_iload_n K dX8_dusk_66 rfl 0 rfl ?_
      obtain ⟨w67, ew67, h⟩ := bd h
      have ho67 := obS ew67
      obtain ⟨v67, S67, e67, h⟩ := bd2 h
      refine j_cI (st := []) K (r_V (vs := [vI x1, vI v13]) (n := 2) (o := o) K (c_X8_thoughtOf e67) ho67 (by decide) rfl dX8_dusk_67 z1080 z1082 zs48 z13 z1083 ⟨zd_X8_thoughtOf, rfl, rfl, rfl, ⟨Nat.le_of_ble_eq_true rfl, Nat.le_of_ble_eq_true rfl⟩, Nat.le_of_ble_eq_true rfl, Nat.le_of_ble_eq_true rfl, Nat.le_of_ble_eq_true rfl⟩) rfl ?_
      exact j_iret K X dX8_dusk_70 h
    replace h := ie c18_3 h
    have t18_0 : x2.toInt ≠ 0 := swn rfl c18_0
    have t18_1 : x2.toInt ≠ 1 := swn rfl c18_1
    have t18_2 : x2.toInt ≠ 2 := swn rfl c18_2
    have t18_3 : x2.toInt ≠ 3 := swn rfl c18_3
    refine j_tout (tgt := 71) K dX8_dusk_18 (by omega) (by decide) ?_
    refine j_bipush (v := (-7 : Int32)) K dX8_dusk_71 (by decide) ?_
    exact j_iret K X dX8_dusk_73 h
  · replace h := it c5 h
    refine j_bipush (v := (-5 : Int32)) K dX8_dusk_8 (by decide) ?_
    exact j_iret K X dX8_dusk_10 h
theorem c_X8_dusk {l : Launch} {fu : Nat} {S : Hp} {o : Nat} {x1 : Int32} {x2 : Int32} {res : Int32 × Hp} (h : F_X8_dusk fu S o x1 x2 = some res) : Ct l yX8_dusk cX8_dusk 4 (some .int) (rmd 6 0 0) 0 0 [vR (some o), vI x1, vI x2] S (QI res) :=
  z_entry (by decide +kernel) (Nat.le_of_ble_eq_true rfl) (fun E ad K X => w_X8_dusk K X h)

theorem dX8_beatsAll_0 : decode cX8_beatsAll 0 = .ok (.iconst 0, 1) ∧ 0 + 1 = 1 := ⟨by decide +kernel, rfl⟩
theorem dX8_beatsAll_1 : decode cX8_beatsAll 1 = .ok (.istore_n 1, 1) ∧ 1 + 1 = 2 := ⟨by decide +kernel, rfl⟩
theorem dX8_beatsAll_2 : decode cX8_beatsAll 2 = .ok (.iconst 0, 1) ∧ 2 + 1 = 3 := ⟨by decide +kernel, rfl⟩
theorem dX8_beatsAll_3 : decode cX8_beatsAll 3 = .ok (.istore_n 2, 1) ∧ 3 + 1 = 4 := ⟨by decide +kernel, rfl⟩
theorem dX8_beatsAll_4 : decode cX8_beatsAll 4 = .ok (.iload_n 2, 1) ∧ 4 + 1 = 5 := ⟨by decide +kernel, rfl⟩
theorem dX8_beatsAll_5 : decode cX8_beatsAll 5 = .ok (.aload_n 0, 1) ∧ 5 + 1 = 6 := ⟨by decide +kernel, rfl⟩
theorem dX8_beatsAll_6 : decode cX8_beatsAll 6 = .ok (.getfield 84, 3) ∧ 6 + 3 = 9 := ⟨by decide +kernel, rfl⟩
theorem dX8_beatsAll_9 : decode cX8_beatsAll 9 = .ok (.if_icmp .ge 17, 3) ∧ 9 + 3 = 12 ∧ ((9 : Nat) : Int) + (17) = ((26 : Nat) : Int) := ⟨by decide +kernel, rfl, by decide⟩
theorem dX8_beatsAll_12 : decode cX8_beatsAll 12 = .ok (.iload_n 1, 1) ∧ 12 + 1 = 13 := ⟨by decide +kernel, rfl⟩
theorem dX8_beatsAll_13 : decode cX8_beatsAll 13 = .ok (.aload_n 0, 1) ∧ 13 + 1 = 14 := ⟨by decide +kernel, rfl⟩
theorem dX8_beatsAll_14 : decode cX8_beatsAll 14 = .ok (.iload_n 2, 1) ∧ 14 + 1 = 15 := ⟨by decide +kernel, rfl⟩
theorem dX8_beatsAll_15 : decode cX8_beatsAll 15 = .ok (.invokevirtual 214, 3) := by decide +kernel
theorem dX8_beatsAll_18 : decode cX8_beatsAll 18 = .ok (.iadd, 1) ∧ 18 + 1 = 19 := ⟨by decide +kernel, rfl⟩
theorem dX8_beatsAll_19 : decode cX8_beatsAll 19 = .ok (.istore_n 1, 1) ∧ 19 + 1 = 20 := ⟨by decide +kernel, rfl⟩
theorem dX8_beatsAll_20 : decode cX8_beatsAll 20 = .ok (.iinc 2 1, 3) ∧ 20 + 3 = 23 := ⟨by decide +kernel, rfl⟩
theorem dX8_beatsAll_23 : decode cX8_beatsAll 23 = .ok (.goto (-19), 3) ∧ ((23 : Nat) : Int) + (-19) = ((4 : Nat) : Int) := ⟨by decide +kernel, by decide⟩
theorem dX8_beatsAll_26 : decode cX8_beatsAll 26 = .ok (.iload_n 1, 1) ∧ 26 + 1 = 27 := ⟨by decide +kernel, rfl⟩
theorem dX8_beatsAll_27 : decode cX8_beatsAll 27 = .ok (.ireturn, 1) := by decide +kernel
def L_X8_beatsAll_4 (k4 : Hp → Int32 → Int32 → Option (Int32 × Hp)) (fu : Nat) (o : Nat) (S : Hp) (x1 : Int32) (x2 : Int32) : Option (Int32 × Hp) :=
  (gI S (some o) 6 0).bind fun v6 =>
  if v6 ≤ x2 then
    some (x1, S)
  else
    (ob S 6 (some o)).bind fun _ =>
    b2 (F_X8_beatsOf fu S o x2) fun v15 S15 =>
    k4 S15 (x1 + v15) (x2 + (1 : Int32))
set_option maxRecDepth 100000 in
set_option maxHeartbeats 4000000 in
theorem wl_X8_beatsAll_4 {E : Cx} {l : Launch} {res : Int32 × Hp} {ad : Nat → Nat} {k4 : Hp → Int32 → Int32 → Option (Int32 × Hp)} {fu : Nat} {o : Nat} {S : Hp} {x1 : Int32} {x2 : Int32} (K : Kx E cX8_beatsAll RX8 (rmd 5 0 0)) (X : Bx E l yX8_beatsAll 3 (some .int) 0 0 ad (QI res)) (hk4 : ∀ (S : Hp) (x1 : Int32) (x2 : Int32), k4 S x1 x2 = some res → J E 0 0 4 [(0, vR (some o)), (1, vI x1), (2, vI x2)] [] S ad) (h : L_X8_beatsAll_4 k4 fu o S x1 x2 = some res) : J E 0 0 4 [(0, vR (some o)), (1, vI x1), (2, vI x2)] [] S ad := by
  refine j_iload_n K dX8_beatsAll_4 rfl 2 rfl ?_
  refine j_aload_n K dX8_beatsAll_5 rfl 0 rfl ?_
  obtain ⟨v6, e6, h⟩ := bd h
  refine fgX8_84 K dX8_beatsAll_6 e6 ?_
  refine j_icmp_ge K dX8_beatsAll_9 (fun c9 => ?_) (fun c9 => ?_)
  · replace h := it c9 h
    refine j_iload_n K dX8_beatsAll_26 rfl 1 rfl ?_
    exact j_iret K X dX8_beatsAll_27 h
  · replace h := ie c9 h
    refine j_iload_n K dX8_beatsAll_12 rfl 1 rfl ?_
    refine j_aload_n K dX8_beatsAll_13 rfl 0 rfl ?_
    refine j_iload_n K dX8_beatsAll_14 rfl 2 rfl ?_
    obtain ⟨w15, ew15, h⟩ := bd h
    have ho15 := obS ew15
    obtain ⟨v15, S15, e15, h⟩ := bd2 h
    refine j_cI (st := [vI x1]) K (r_V (vs := [vI x2]) (n := 1) (o := o) K (c_X8_beatsOf e15) ho15 (by decide) rfl dX8_beatsAll_15 z1052 z1054 zs41 z13 z1055 ⟨zd_X8_beatsOf, rfl, rfl, rfl, ⟨Nat.le_of_ble_eq_true rfl, Nat.le_of_ble_eq_true rfl⟩, Nat.le_of_ble_eq_true rfl, Nat.le_of_ble_eq_true rfl, Nat.le_of_ble_eq_true rfl⟩) rfl ?_
    refine j_iadd K dX8_beatsAll_18 ?_
    refine j_istore_n (lv' := [(1, vI (x1 + v15)), (0, vR (some o)), (2, vI x2)]) K dX8_beatsAll_19 rfl X.2.2.1 (by decide) rfl ?_
    refine j_iinc (q := 2) (v := (x2 + (1 : Int32))) (lv' := [(2, vI (x2 + (1 : Int32))), (1, vI (x1 + v15)), (0, vR (some o))]) K dX8_beatsAll_20 rfl rfl X.2.2.1 (by decide) rfl ?_
    refine j_goto K dX8_beatsAll_23 ?_
    exact j_sub [2, 1, 0] rfl (hk4 _ _ _ h)
def B_X8_beatsAll_4 (fu : Nat) (o : Nat) : Nat → Hp → Int32 → Int32 → Option (Int32 × Hp)
  | 0 => fun _ _ _ => none
  | n + 1 => L_X8_beatsAll_4 (B_X8_beatsAll_4 fu o n) fu o
theorem w_X8_beatsAll_4 {E : Cx} {l : Launch} {res : Int32 × Hp} {ad : Nat → Nat} {fu : Nat} {o : Nat} (K : Kx E cX8_beatsAll RX8 (rmd 5 0 0)) (X : Bx E l yX8_beatsAll 3 (some .int) 0 0 ad (QI res)) : ∀ (n : Nat) (S : Hp) (x1 : Int32) (x2 : Int32), B_X8_beatsAll_4 fu o n S x1 x2 = some res → J E 0 0 4 [(0, vR (some o)), (1, vI x1), (2, vI x2)] [] S ad := by
  intro n
  induction n with
  | zero =>
    intro S x1 x2 h
    cases h
  | succ n ih =>
    intro S x1 x2 h
    exact wl_X8_beatsAll_4 K X ih h
def F_X8_beatsAll (fu : Nat) (S : Hp) (o : Nat) : Option (Int32 × Hp) :=
  B_X8_beatsAll_4 fu o fu S (0 : Int32) (0 : Int32)
set_option maxRecDepth 100000 in
set_option maxHeartbeats 4000000 in
theorem w_X8_beatsAll {E : Cx} {l : Launch} {res : Int32 × Hp} {ad : Nat → Nat} {fu : Nat} {S : Hp} {o : Nat} (K : Kx E cX8_beatsAll RX8 (rmd 5 0 0)) (X : Bx E l yX8_beatsAll 3 (some .int) 0 0 ad (QI res)) (h : F_X8_beatsAll fu S o = some res) : J E 0 0 0 [(0, vR (some o))] [] S ad := by
  refine j_iconst (v := (0 : Int32)) K dX8_beatsAll_0 (by decide) ?_
  refine j_istore_n (lv' := [(1, vI (0 : Int32)), (0, vR (some o))]) K dX8_beatsAll_1 rfl X.2.2.1 (by decide) rfl ?_
  refine j_iconst (v := (0 : Int32)) K dX8_beatsAll_2 (by decide) ?_
  refine j_istore_n (lv' := [(2, vI (0 : Int32)), (1, vI (0 : Int32)), (0, vR (some o))]) K dX8_beatsAll_3 rfl X.2.2.1 (by decide) rfl ?_
  exact j_sub [2, 1, 0] rfl (w_X8_beatsAll_4 K X _ _ _ _ h)
theorem c_X8_beatsAll {l : Launch} {fu : Nat} {S : Hp} {o : Nat} {res : Int32 × Hp} (h : F_X8_beatsAll fu S o = some res) : Ct l yX8_beatsAll cX8_beatsAll 3 (some .int) (rmd 5 0 0) 0 0 [vR (some o)] S (QI res) :=
  z_entry (by decide +kernel) (Nat.le_of_ble_eq_true rfl) (fun E ad K X => w_X8_beatsAll K X h)

theorem dX8_town_0 : decode cX8_town 0 = .ok (.iload_n 1, 1) ∧ 0 + 1 = 1 := ⟨by decide +kernel, rfl⟩
theorem dX8_town_1 : decode cX8_town 1 = .ok (.iconst 0, 1) ∧ 1 + 1 = 2 := ⟨by decide +kernel, rfl⟩
theorem dX8_town_2 : decode cX8_town 2 = .ok (.iconst 3, 1) ∧ 2 + 1 = 3 := ⟨by decide +kernel, rfl⟩
theorem dX8_town_3 : decode cX8_town 3 = .ok (.invokestatic 87, 3) := by decide +kernel
theorem dX8_town_6 : decode cX8_town 6 = .ok (.ifCond .ne 6, 3) ∧ 6 + 3 = 9 ∧ ((6 : Nat) : Int) + (6) = ((12 : Nat) : Int) := ⟨by decide +kernel, rfl, by decide⟩
theorem dX8_town_9 : decode cX8_town 9 = .ok (.bipush (-2), 2) ∧ 9 + 2 = 11 := ⟨by decide +kernel, rfl⟩
theorem dX8_town_11 : decode cX8_town 11 = .ok (.ireturn, 1) := by decide +kernel
theorem dX8_town_12 : decode cX8_town 12 = .ok (.iconst (-1), 1) ∧ 12 + 1 = 13 := ⟨by decide +kernel, rfl⟩
theorem dX8_town_13 : decode cX8_town 13 = .ok (.istore_n 2, 1) ∧ 13 + 1 = 14 := ⟨by decide +kernel, rfl⟩
theorem dX8_town_14 : decode cX8_town 14 = .ok (.iconst 0, 1) ∧ 14 + 1 = 15 := ⟨by decide +kernel, rfl⟩
theorem dX8_town_15 : decode cX8_town 15 = .ok (.istore_n 3, 1) ∧ 15 + 1 = 16 := ⟨by decide +kernel, rfl⟩
theorem dX8_town_16 : decode cX8_town 16 = .ok (.iconst 0, 1) ∧ 16 + 1 = 17 := ⟨by decide +kernel, rfl⟩
theorem dX8_town_17 : decode cX8_town 17 = .ok (.istore 4, 2) ∧ 17 + 2 = 19 := ⟨by decide +kernel, rfl⟩
theorem dX8_town_19 : decode cX8_town 19 = .ok (.iconst 0, 1) ∧ 19 + 1 = 20 := ⟨by decide +kernel, rfl⟩
theorem dX8_town_20 : decode cX8_town 20 = .ok (.istore 5, 2) ∧ 20 + 2 = 22 := ⟨by decide +kernel, rfl⟩
theorem dX8_town_22 : decode cX8_town 22 = .ok (.iconst 0, 1) ∧ 22 + 1 = 23 := ⟨by decide +kernel, rfl⟩
theorem dX8_town_23 : decode cX8_town 23 = .ok (.istore 6, 2) ∧ 23 + 2 = 25 := ⟨by decide +kernel, rfl⟩
theorem dX8_town_25 : decode cX8_town 25 = .ok (.iload 6, 2) ∧ 25 + 2 = 27 := ⟨by decide +kernel, rfl⟩
theorem dX8_town_27 : decode cX8_town 27 = .ok (.aload_n 0, 1) ∧ 27 + 1 = 28 := ⟨by decide +kernel, rfl⟩
theorem dX8_town_28 : decode cX8_town 28 = .ok (.getfield 84, 3) ∧ 28 + 3 = 31 := ⟨by decide +kernel, rfl⟩
theorem dX8_town_31 : decode cX8_town 31 = .ok (.if_icmp .ge 74, 3) ∧ 31 + 3 = 34 ∧ ((31 : Nat) : Int) + (74) = ((105 : Nat) : Int) := ⟨by decide +kernel, rfl, by decide⟩
theorem dX8_town_34 : decode cX8_town 34 = .ok (.aload_n 0, 1) ∧ 34 + 1 = 35 := ⟨by decide +kernel, rfl⟩
theorem dX8_town_35 : decode cX8_town 35 = .ok (.iload 6, 2) ∧ 35 + 2 = 37 := ⟨by decide +kernel, rfl⟩
theorem dX8_town_37 : decode cX8_town 37 = .ok (.invokevirtual 214, 3) := by decide +kernel
theorem dX8_town_40 : decode cX8_town 40 = .ok (.istore 7, 2) ∧ 40 + 2 = 42 := ⟨by decide +kernel, rfl⟩
theorem dX8_town_42 : decode cX8_town 42 = .ok (.iload 7, 2) ∧ 42 + 2 = 44 := ⟨by decide +kernel, rfl⟩
theorem dX8_town_44 : decode cX8_town 44 = .ok (.iload_n 3, 1) ∧ 44 + 1 = 45 := ⟨by decide +kernel, rfl⟩
theorem dX8_town_45 : decode cX8_town 45 = .ok (.if_icmp .le 8, 3) ∧ 45 + 3 = 48 ∧ ((45 : Nat) : Int) + (8) = ((53 : Nat) : Int) := ⟨by decide +kernel, rfl, by decide⟩
theorem dX8_town_48 : decode cX8_town 48 = .ok (.iload 6, 2) ∧ 48 + 2 = 50 := ⟨by decide +kernel, rfl⟩
theorem dX8_town_50 : decode cX8_town 50 = .ok (.goto 4, 3) ∧ ((50 : Nat) : Int) + (4) = ((54 : Nat) : Int) := ⟨by decide +kernel, by decide⟩
theorem dX8_town_53 : decode cX8_town 53 = .ok (.iload_n 2, 1) ∧ 53 + 1 = 54 := ⟨by decide +kernel, rfl⟩
theorem dX8_town_54 : decode cX8_town 54 = .ok (.istore_n 2, 1) ∧ 54 + 1 = 55 := ⟨by decide +kernel, rfl⟩
theorem dX8_town_55 : decode cX8_town 55 = .ok (.iload 7, 2) ∧ 55 + 2 = 57 := ⟨by decide +kernel, rfl⟩
theorem dX8_town_57 : decode cX8_town 57 = .ok (.iload_n 3, 1) ∧ 57 + 1 = 58 := ⟨by decide +kernel, rfl⟩
theorem dX8_town_58 : decode cX8_town 58 = .ok (.if_icmp .le 8, 3) ∧ 58 + 3 = 61 ∧ ((58 : Nat) : Int) + (8) = ((66 : Nat) : Int) := ⟨by decide +kernel, rfl, by decide⟩
theorem dX8_town_61 : decode cX8_town 61 = .ok (.iload 7, 2) ∧ 61 + 2 = 63 := ⟨by decide +kernel, rfl⟩
theorem dX8_town_63 : decode cX8_town 63 = .ok (.goto 4, 3) ∧ ((63 : Nat) : Int) + (4) = ((67 : Nat) : Int) := ⟨by decide +kernel, by decide⟩
theorem dX8_town_66 : decode cX8_town 66 = .ok (.iload_n 3, 1) ∧ 66 + 1 = 67 := ⟨by decide +kernel, rfl⟩
theorem dX8_town_67 : decode cX8_town 67 = .ok (.istore_n 3, 1) ∧ 67 + 1 = 68 := ⟨by decide +kernel, rfl⟩
theorem dX8_town_68 : decode cX8_town 68 = .ok (.iload 4, 2) ∧ 68 + 2 = 70 := ⟨by decide +kernel, rfl⟩
theorem dX8_town_70 : decode cX8_town 70 = .ok (.iload 7, 2) ∧ 70 + 2 = 72 := ⟨by decide +kernel, rfl⟩
theorem dX8_town_72 : decode cX8_town 72 = .ok (.ifCond .ne 10, 3) ∧ 72 + 3 = 75 ∧ ((72 : Nat) : Int) + (10) = ((82 : Nat) : Int) := ⟨by decide +kernel, rfl, by decide⟩
theorem dX8_town_75 : decode cX8_town 75 = .ok (.iconst 1, 1) ∧ 75 + 1 = 76 := ⟨by decide +kernel, rfl⟩
theorem dX8_town_76 : decode cX8_town 76 = .ok (.iload 6, 2) ∧ 76 + 2 = 78 := ⟨by decide +kernel, rfl⟩
theorem dX8_town_78 : decode cX8_town 78 = .ok (.ishl, 1) ∧ 78 + 1 = 79 := ⟨by decide +kernel, rfl⟩
theorem dX8_town_79 : decode cX8_town 79 = .ok (.goto 4, 3) ∧ ((79 : Nat) : Int) + (4) = ((83 : Nat) : Int) := ⟨by decide +kernel, by decide⟩
theorem dX8_town_82 : decode cX8_town 82 = .ok (.iconst 0, 1) ∧ 82 + 1 = 83 := ⟨by decide +kernel, rfl⟩
theorem dX8_town_83 : decode cX8_town 83 = .ok (.ior, 1) ∧ 83 + 1 = 84 := ⟨by decide +kernel, rfl⟩
theorem dX8_town_84 : decode cX8_town 84 = .ok (.istore 4, 2) ∧ 84 + 2 = 86 := ⟨by decide +kernel, rfl⟩
theorem dX8_town_86 : decode cX8_town 86 = .ok (.iload 5, 2) ∧ 86 + 2 = 88 := ⟨by decide +kernel, rfl⟩
theorem dX8_town_88 : decode cX8_town 88 = .ok (.aload_n 0, 1) ∧ 88 + 1 = 89 := ⟨by decide +kernel, rfl⟩
theorem dX8_town_89 : decode cX8_town 89 = .ok (.iload 6, 2) ∧ 89 + 2 = 91 := ⟨by decide +kernel, rfl⟩
theorem dX8_town_91 : decode cX8_town 91 = .ok (.iload 7, 2) ∧ 91 + 2 = 93 := ⟨by decide +kernel, rfl⟩
theorem dX8_town_93 : decode cX8_town 93 = .ok (.invokevirtual 217, 3) := by decide +kernel
theorem dX8_town_96 : decode cX8_town 96 = .ok (.ior, 1) ∧ 96 + 1 = 97 := ⟨by decide +kernel, rfl⟩
theorem dX8_town_97 : decode cX8_town 97 = .ok (.istore 5, 2) ∧ 97 + 2 = 99 := ⟨by decide +kernel, rfl⟩
theorem dX8_town_99 : decode cX8_town 99 = .ok (.iinc 6 1, 3) ∧ 99 + 3 = 102 := ⟨by decide +kernel, rfl⟩
theorem dX8_town_102 : decode cX8_town 102 = .ok (.goto (-77), 3) ∧ ((102 : Nat) : Int) + (-77) = ((25 : Nat) : Int) := ⟨by decide +kernel, by decide⟩
theorem dX8_town_105 : decode cX8_town 105 = .ok (.iload_n 1, 1) ∧ 105 + 1 = 106 := ⟨by decide +kernel, rfl⟩
theorem dX8_town_106 : decode cX8_town 106 = .ok (.ifCond .ne 10, 3) ∧ 106 + 3 = 109 ∧ ((106 : Nat) : Int) + (10) = ((116 : Nat) : Int) := ⟨by decide +kernel, rfl, by decide⟩
theorem dX8_town_109 : decode cX8_town 109 = .ok (.aload_n 0, 1) ∧ 109 + 1 = 110 := ⟨by decide +kernel, rfl⟩
theorem dX8_town_110 : decode cX8_town 110 = .ok (.invokevirtual 223, 3) := by decide +kernel
theorem dX8_town_113 : decode cX8_town 113 = .ok (.goto 24, 3) ∧ ((113 : Nat) : Int) + (24) = ((137 : Nat) : Int) := ⟨by decide +kernel, by decide⟩
theorem dX8_town_116 : decode cX8_town 116 = .ok (.iload_n 1, 1) ∧ 116 + 1 = 117 := ⟨by decide +kernel, rfl⟩
theorem dX8_town_117 : decode cX8_town 117 = .ok (.iconst 1, 1) ∧ 117 + 1 = 118 := ⟨by decide +kernel, rfl⟩
theorem dX8_town_118 : decode cX8_town 118 = .ok (.if_icmp .ne 7, 3) ∧ 118 + 3 = 121 ∧ ((118 : Nat) : Int) + (7) = ((125 : Nat) : Int) := ⟨by decide +kernel, rfl, by decide⟩
theorem dX8_town_121 : decode cX8_town 121 = .ok (.iload_n 2, 1) ∧ 121 + 1 = 122 := ⟨by decide +kernel, rfl⟩
theorem dX8_town_122 : decode cX8_town 122 = .ok (.goto 15, 3) ∧ ((122 : Nat) : Int) + (15) = ((137 : Nat) : Int) := ⟨by decide +kernel, by decide⟩
theorem dX8_town_125 : decode cX8_town 125 = .ok (.iload_n 1, 1) ∧ 125 + 1 = 126 := ⟨by decide +kernel, rfl⟩
theorem dX8_town_126 : decode cX8_town 126 = .ok (.iconst 2, 1) ∧ 126 + 1 = 127 := ⟨by decide +kernel, rfl⟩
theorem dX8_town_127 : decode cX8_town 127 = .ok (.if_icmp .ne 8, 3) ∧ 127 + 3 = 130 ∧ ((127 : Nat) : Int) + (8) = ((135 : Nat) : Int) := ⟨by decide +kernel, rfl, by decide⟩
theorem dX8_town_130 : decode cX8_town 130 = .ok (.iload 4, 2) ∧ 130 + 2 = 132 := ⟨by decide +kernel, rfl⟩
theorem dX8_town_132 : decode cX8_town 132 = .ok (.goto 5, 3) ∧ ((132 : Nat) : Int) + (5) = ((137 : Nat) : Int) := ⟨by decide +kernel, by decide⟩
theorem dX8_town_135 : decode cX8_town 135 = .ok (.iload 5, 2) ∧ 135 + 2 = 137 := ⟨by decide +kernel, rfl⟩
theorem dX8_town_137 : decode cX8_town 137 = .ok (.ireturn, 1) := by decide +kernel
def B_X8_town_83 (k25 : Hp → Int32 → Int32 → Int32 → Int32 → Int32 → Option (Int32 × Hp)) (fu : Nat) (o : Nat) (S : Hp) (x1 : Int32) (x2 : Int32) (x3 : Int32) (x5 : Int32) (x6 : Int32) (x7 : Int32) (s0 : Int32) (s1 : Int32) : Option (Int32 × Hp) :=
  (ob S 6 (some o)).bind fun _ =>
  b2 (F_X8_caughtBy fu S o x6 x7) fun v93 S93 =>
  k25 S93 x2 x3 (s1 ||| s0) (x5 ||| v93) (x6 + (1 : Int32))
set_option maxRecDepth 100000 in
set_option maxHeartbeats 4000000 in
theorem w_X8_town_83 {E : Cx} {l : Launch} {res : Int32 × Hp} {ad : Nat → Nat} {k25 : Hp → Int32 → Int32 → Int32 → Int32 → Int32 → Option (Int32 × Hp)} {fu : Nat} {o : Nat} {S : Hp} {x1 : Int32} {x2 : Int32} {x3 : Int32} {x5 : Int32} {x6 : Int32} {x7 : Int32} {s0 : Int32} {s1 : Int32} (K : Kx E cX8_town RX8 (rmd 6 0 0)) (X : Bx E l yX8_town 8 (some .int) 0 0 ad (QI res)) (hk25 : ∀ (S : Hp) (x2 : Int32) (x3 : Int32) (x4 : Int32) (x5 : Int32) (x6 : Int32), k25 S x2 x3 x4 x5 x6 = some res → J E 0 0 25 [(0, vR (some o)), (1, vI x1), (2, vI x2), (3, vI x3), (4, vI x4), (5, vI x5), (6, vI x6)] [] S ad) (h : B_X8_town_83 k25 fu o S x1 x2 x3 x5 x6 x7 s0 s1 = some res) : J E 0 0 83 [(0, vR (some o)), (1, vI x1), (2, vI x2), (3, vI x3), (5, vI x5), (6, vI x6), (7, vI x7)] [vI s0, vI s1] S ad := by
  refine j_ior K dX8_town_83 ?_
  refine j_istore (lv' := [(4, vI (s1 ||| s0)), (0, vR (some o)), (1, vI x1), (2, vI x2), (3, vI x3), (5, vI x5), (6, vI x6), (7, vI x7)]) K dX8_town_84 X.2.2.1 (by decide) rfl ?_
  refine j_iload K dX8_town_86 5 rfl ?_
  refine j_aload_n K dX8_town_88 rfl 1 rfl ?_
  refine j_iload K dX8_town_89 6 rfl ?_
  refine j_iload K dX8_town_91 7 rfl ?_
  obtain ⟨w93, ew93, h⟩ := bd h
  have ho93 := obS ew93
  obtain ⟨v93, S93, e93, h⟩ := bd2 h
  refine j_cI (st := [vI x5]) K (r_V (vs := [vI x6, vI x7]) (n := 2) (o := o) K (c_X8_caughtBy e93) ho93 (by decide) rfl dX8_town_93 z1060 z1062 zs43 z13 z1063 ⟨zd_X8_caughtBy, rfl, rfl, rfl, ⟨Nat.le_of_ble_eq_true rfl, Nat.le_of_ble_eq_true rfl⟩, Nat.le_of_ble_eq_true rfl, Nat.le_of_ble_eq_true rfl, Nat.le_of_ble_eq_true rfl⟩) rfl ?_
  refine j_ior K dX8_town_96 ?_
  refine j_istore (lv' := [(5, vI (x5 ||| v93)), (4, vI (s1 ||| s0)), (0, vR (some o)), (1, vI x1), (2, vI x2), (3, vI x3), (6, vI x6), (7, vI x7)]) K dX8_town_97 X.2.2.1 (by decide) rfl ?_
  refine j_iinc (q := 6) (v := (x6 + (1 : Int32))) (lv' := [(6, vI (x6 + (1 : Int32))), (5, vI (x5 ||| v93)), (4, vI (s1 ||| s0)), (0, vR (some o)), (1, vI x1), (2, vI x2), (3, vI x3), (7, vI x7)]) K dX8_town_99 rfl rfl X.2.2.1 (by decide) rfl ?_
  refine j_goto K dX8_town_102 ?_
  exact j_sub [3, 4, 5, 6, 2, 1, 0] rfl (hk25 _ _ _ _ _ _ h)
def B_X8_town_67 (k25 : Hp → Int32 → Int32 → Int32 → Int32 → Int32 → Option (Int32 × Hp)) (fu : Nat) (o : Nat) (S : Hp) (x1 : Int32) (x2 : Int32) (x4 : Int32) (x5 : Int32) (x6 : Int32) (x7 : Int32) (s0 : Int32) : Option (Int32 × Hp) :=
  if x7 = 0 then
    B_X8_town_83 k25 fu o S x1 x2 s0 x5 x6 x7 ((1 : Int32) <<< (x6 &&& 31)) x4
  else
    B_X8_town_83 k25 fu o S x1 x2 s0 x5 x6 x7 (0 : Int32) x4
set_option maxRecDepth 100000 in
set_option maxHeartbeats 4000000 in
theorem w_X8_town_67 {E : Cx} {l : Launch} {res : Int32 × Hp} {ad : Nat → Nat} {k25 : Hp → Int32 → Int32 → Int32 → Int32 → Int32 → Option (Int32 × Hp)} {fu : Nat} {o : Nat} {S : Hp} {x1 : Int32} {x2 : Int32} {x4 : Int32} {x5 : Int32} {x6 : Int32} {x7 : Int32} {s0 : Int32} (K : Kx E cX8_town RX8 (rmd 6 0 0)) (X : Bx E l yX8_town 8 (some .int) 0 0 ad (QI res)) (hk25 : ∀ (S : Hp) (x2 : Int32) (x3 : Int32) (x4 : Int32) (x5 : Int32) (x6 : Int32), k25 S x2 x3 x4 x5 x6 = some res → J E 0 0 25 [(0, vR (some o)), (1, vI x1), (2, vI x2), (3, vI x3), (4, vI x4), (5, vI x5), (6, vI x6)] [] S ad) (h : B_X8_town_67 k25 fu o S x1 x2 x4 x5 x6 x7 s0 = some res) : J E 0 0 67 [(0, vR (some o)), (1, vI x1), (2, vI x2), (4, vI x4), (5, vI x5), (6, vI x6), (7, vI x7)] [vI s0] S ad := by
  refine j_istore_n (lv' := [(3, vI s0), (0, vR (some o)), (1, vI x1), (2, vI x2), (4, vI x4), (5, vI x5), (6, vI x6), (7, vI x7)]) K dX8_town_67 rfl X.2.2.1 (by decide) rfl ?_
  refine j_iload K dX8_town_68 4 rfl ?_
  refine j_iload K dX8_town_70 7 rfl ?_
  refine j_if_ne K dX8_town_72 (fun c72 => ?_) (fun c72 => ?_)
  · replace h := ie c72 h
    refine j_iconst (v := (0 : Int32)) K dX8_town_82 (by decide) ?_
    exact j_sub [1, 2, 3, 0, 5, 6, 7] rfl (w_X8_town_83 K X hk25 h)
  · replace h := it c72 h
    refine j_iconst (v := (1 : Int32)) K dX8_town_75 (by decide) ?_
    refine j_iload K dX8_town_76 6 rfl ?_
    refine j_ishl K dX8_town_78 ?_
    refine j_goto K dX8_town_79 ?_
    exact j_sub [1, 2, 3, 0, 5, 6, 7] rfl (w_X8_town_83 K X hk25 h)
def B_X8_town_54 (k25 : Hp → Int32 → Int32 → Int32 → Int32 → Int32 → Option (Int32 × Hp)) (fu : Nat) (o : Nat) (S : Hp) (x1 : Int32) (x3 : Int32) (x4 : Int32) (x5 : Int32) (x6 : Int32) (x7 : Int32) (s0 : Int32) : Option (Int32 × Hp) :=
  if x7 ≤ x3 then
    B_X8_town_67 k25 fu o S x1 s0 x4 x5 x6 x7 x3
  else
    B_X8_town_67 k25 fu o S x1 s0 x4 x5 x6 x7 x7
set_option maxRecDepth 100000 in
set_option maxHeartbeats 4000000 in
theorem w_X8_town_54 {E : Cx} {l : Launch} {res : Int32 × Hp} {ad : Nat → Nat} {k25 : Hp → Int32 → Int32 → Int32 → Int32 → Int32 → Option (Int32 × Hp)} {fu : Nat} {o : Nat} {S : Hp} {x1 : Int32} {x3 : Int32} {x4 : Int32} {x5 : Int32} {x6 : Int32} {x7 : Int32} {s0 : Int32} (K : Kx E cX8_town RX8 (rmd 6 0 0)) (X : Bx E l yX8_town 8 (some .int) 0 0 ad (QI res)) (hk25 : ∀ (S : Hp) (x2 : Int32) (x3 : Int32) (x4 : Int32) (x5 : Int32) (x6 : Int32), k25 S x2 x3 x4 x5 x6 = some res → J E 0 0 25 [(0, vR (some o)), (1, vI x1), (2, vI x2), (3, vI x3), (4, vI x4), (5, vI x5), (6, vI x6)] [] S ad) (h : B_X8_town_54 k25 fu o S x1 x3 x4 x5 x6 x7 s0 = some res) : J E 0 0 54 [(0, vR (some o)), (1, vI x1), (3, vI x3), (4, vI x4), (5, vI x5), (6, vI x6), (7, vI x7)] [vI s0] S ad := by
  refine j_istore_n (lv' := [(2, vI s0), (0, vR (some o)), (1, vI x1), (3, vI x3), (4, vI x4), (5, vI x5), (6, vI x6), (7, vI x7)]) K dX8_town_54 rfl X.2.2.1 (by decide) rfl ?_
  refine j_iload K dX8_town_55 7 rfl ?_
  refine j_iload_n K dX8_town_57 rfl 3 rfl ?_
  refine j_icmp_le K dX8_town_58 (fun c58 => ?_) (fun c58 => ?_)
  · replace h := it c58 h
    refine j_iload_n K dX8_town_66 rfl 3 rfl ?_
    exact j_sub [1, 2, 0, 4, 5, 6, 7] rfl (w_X8_town_67 K X hk25 h)
  · replace h := ie c58 h
    refine j_iload K dX8_town_61 7 rfl ?_
    refine j_goto K dX8_town_63 ?_
    exact j_sub [1, 2, 0, 4, 5, 6, 7] rfl (w_X8_town_67 K X hk25 h)
def B_X8_town_137 (fu : Nat) (o : Nat) (S : Hp) (s0 : Int32) : Option (Int32 × Hp) :=
  some (s0, S)
set_option maxRecDepth 100000 in
set_option maxHeartbeats 4000000 in
theorem w_X8_town_137 {E : Cx} {l : Launch} {res : Int32 × Hp} {ad : Nat → Nat} {fu : Nat} {o : Nat} {S : Hp} {s0 : Int32} (K : Kx E cX8_town RX8 (rmd 6 0 0)) (X : Bx E l yX8_town 8 (some .int) 0 0 ad (QI res)) (h : B_X8_town_137 fu o S s0 = some res) : J E 0 0 137 [] [vI s0] S ad := by
  exact j_iret K X dX8_town_137 h
def L_X8_town_25 (k25 : Hp → Int32 → Int32 → Int32 → Int32 → Int32 → Option (Int32 × Hp)) (fu : Nat) (o : Nat) (x1 : Int32) (S : Hp) (x2 : Int32) (x3 : Int32) (x4 : Int32) (x5 : Int32) (x6 : Int32) : Option (Int32 × Hp) :=
  (gI S (some o) 6 0).bind fun v28 =>
  if v28 ≤ x6 then
    if x1 = 0 then
      (ob S 6 (some o)).bind fun _ =>
      b2 (F_X8_beatsAll fu S o) fun v110 S110 =>
      B_X8_town_137 fu o S110 v110
    else
      if x1 = (1 : Int32) then
        B_X8_town_137 fu o S x2
      else
        if x1 = (2 : Int32) then
          B_X8_town_137 fu o S x4
        else
          B_X8_town_137 fu o S x5
  else
    (ob S 6 (some o)).bind fun _ =>
    b2 (F_X8_beatsOf fu S o x6) fun v37 S37 =>
    if v37 ≤ x3 then
      B_X8_town_54 k25 fu o S37 x1 x3 x4 x5 x6 v37 x2
    else
      B_X8_town_54 k25 fu o S37 x1 x3 x4 x5 x6 v37 x6
set_option maxRecDepth 100000 in
set_option maxHeartbeats 4000000 in
theorem wl_X8_town_25 {E : Cx} {l : Launch} {res : Int32 × Hp} {ad : Nat → Nat} {k25 : Hp → Int32 → Int32 → Int32 → Int32 → Int32 → Option (Int32 × Hp)} {fu : Nat} {o : Nat} {S : Hp} {x1 : Int32} {x2 : Int32} {x3 : Int32} {x4 : Int32} {x5 : Int32} {x6 : Int32} (K : Kx E cX8_town RX8 (rmd 6 0 0)) (X : Bx E l yX8_town 8 (some .int) 0 0 ad (QI res)) (hk25 : ∀ (S : Hp) (x2 : Int32) (x3 : Int32) (x4 : Int32) (x5 : Int32) (x6 : Int32), k25 S x2 x3 x4 x5 x6 = some res → J E 0 0 25 [(0, vR (some o)), (1, vI x1), (2, vI x2), (3, vI x3), (4, vI x4), (5, vI x5), (6, vI x6)] [] S ad) (h : L_X8_town_25 k25 fu o x1 S x2 x3 x4 x5 x6 = some res) : J E 0 0 25 [(0, vR (some o)), (1, vI x1), (2, vI x2), (3, vI x3), (4, vI x4), (5, vI x5), (6, vI x6)] [] S ad := by
  refine j_iload K dX8_town_25 6 rfl ?_
  refine j_aload_n K dX8_town_27 rfl 0 rfl ?_
  obtain ⟨v28, e28, h⟩ := bd h
  refine fgX8_84 K dX8_town_28 e28 ?_
  refine j_icmp_ge K dX8_town_31 (fun c31 => ?_) (fun c31 => ?_)
  · replace h := it c31 h
    refine j_iload_n K dX8_town_105 rfl 1 rfl ?_
    refine j_if_ne K dX8_town_106 (fun c106 => ?_) (fun c106 => ?_)
    · replace h := ie c106 h
      refine j_iload_n K dX8_town_116 rfl 1 rfl ?_
      refine j_iconst (v := (1 : Int32)) K dX8_town_117 (by decide) ?_
      refine j_icmp_ne K dX8_town_118 (fun c118 => ?_) (fun c118 => ?_)
      · replace h := ie c118 h
        refine j_iload_n K dX8_town_125 rfl 1 rfl ?_
        refine j_iconst (v := (2 : Int32)) K dX8_town_126 (by decide) ?_
        refine j_icmp_ne K dX8_town_127 (fun c127 => ?_) (fun c127 => ?_)
        · replace h := ie c127 h
          refine j_iload K dX8_town_135 5 rfl ?_
          exact j_sub [] rfl (w_X8_town_137 K X h)
        · replace h := it c127 h
          refine j_iload K dX8_town_130 4 rfl ?_
          refine j_goto K dX8_town_132 ?_
          exact j_sub [] rfl (w_X8_town_137 K X h)
      · replace h := it c118 h
        refine j_iload_n K dX8_town_121 rfl 2 rfl ?_
        refine j_goto K dX8_town_122 ?_
        exact j_sub [] rfl (w_X8_town_137 K X h)
    · replace h := it c106 h
      refine j_aload_n K dX8_town_109 rfl 0 rfl ?_
      obtain ⟨w110, ew110, h⟩ := bd h
      have ho110 := obS ew110
      obtain ⟨v110, S110, e110, h⟩ := bd2 h
      refine j_cI (st := []) K (r_V (vs := []) (n := 0) (o := o) K (c_X8_beatsAll e110) ho110 (by decide) rfl dX8_town_110 z1088 z1090 zs49 z13 z1091 ⟨zd_X8_beatsAll, rfl, rfl, rfl, ⟨Nat.le_of_ble_eq_true rfl, Nat.le_of_ble_eq_true rfl⟩, Nat.le_of_ble_eq_true rfl, Nat.le_of_ble_eq_true rfl, Nat.le_of_ble_eq_true rfl⟩) rfl ?_
      refine j_goto K dX8_town_113 ?_
      exact j_sub [] rfl (w_X8_town_137 K X h)
  · replace h := ie c31 h
    refine j_aload_n K dX8_town_34 rfl 0 rfl ?_
    refine j_iload K dX8_town_35 6 rfl ?_
    obtain ⟨w37, ew37, h⟩ := bd h
    have ho37 := obS ew37
    obtain ⟨v37, S37, e37, h⟩ := bd2 h
    refine j_cI (st := []) K (r_V (vs := [vI x6]) (n := 1) (o := o) K (c_X8_beatsOf e37) ho37 (by decide) rfl dX8_town_37 z1052 z1054 zs41 z13 z1055 ⟨zd_X8_beatsOf, rfl, rfl, rfl, ⟨Nat.le_of_ble_eq_true rfl, Nat.le_of_ble_eq_true rfl⟩, Nat.le_of_ble_eq_true rfl, Nat.le_of_ble_eq_true rfl, Nat.le_of_ble_eq_true rfl⟩) rfl ?_
    refine j_istore (lv' := [(7, vI v37), (0, vR (some o)), (1, vI x1), (2, vI x2), (3, vI x3), (4, vI x4), (5, vI x5), (6, vI x6)]) K dX8_town_40 X.2.2.1 (by decide) rfl ?_
    refine j_iload K dX8_town_42 0 rfl ?_
    refine j_iload_n K dX8_town_44 rfl 4 rfl ?_
    refine j_icmp_le K dX8_town_45 (fun c45 => ?_) (fun c45 => ?_)
    · replace h := it c45 h
      refine j_iload_n K dX8_town_53 rfl 3 rfl ?_
      exact j_sub [1, 2, 4, 5, 6, 7, 0] rfl (w_X8_town_54 K X hk25 h)
    · replace h := ie c45 h
      refine j_iload K dX8_town_48 7 rfl ?_
      refine j_goto K dX8_town_50 ?_
      exact j_sub [1, 2, 4, 5, 6, 7, 0] rfl (w_X8_town_54 K X hk25 h)
def B_X8_town_25 (fu : Nat) (o : Nat) (x1 : Int32) : Nat → Hp → Int32 → Int32 → Int32 → Int32 → Int32 → Option (Int32 × Hp)
  | 0 => fun _ _ _ _ _ _ => none
  | n + 1 => L_X8_town_25 (B_X8_town_25 fu o x1 n) fu o x1
theorem w_X8_town_25 {E : Cx} {l : Launch} {res : Int32 × Hp} {ad : Nat → Nat} {fu : Nat} {o : Nat} {x1 : Int32} (K : Kx E cX8_town RX8 (rmd 6 0 0)) (X : Bx E l yX8_town 8 (some .int) 0 0 ad (QI res)) : ∀ (n : Nat) (S : Hp) (x2 : Int32) (x3 : Int32) (x4 : Int32) (x5 : Int32) (x6 : Int32), B_X8_town_25 fu o x1 n S x2 x3 x4 x5 x6 = some res → J E 0 0 25 [(0, vR (some o)), (1, vI x1), (2, vI x2), (3, vI x3), (4, vI x4), (5, vI x5), (6, vI x6)] [] S ad := by
  intro n
  induction n with
  | zero =>
    intro S x2 x3 x4 x5 x6 h
    cases h
  | succ n ih =>
    intro S x2 x3 x4 x5 x6 h
    exact wl_X8_town_25 K X ih h
def F_X8_town (fu : Nat) (S : Hp) (o : Nat) (x1 : Int32) : Option (Int32 × Hp) :=
  b2 (F_X8_in S x1 (0 : Int32) (3 : Int32)) fun v3 S3 =>
  if v3 = 0 then
    some ((-2 : Int32), S3)
  else
    B_X8_town_25 fu o x1 fu S3 (-1 : Int32) (0 : Int32) (0 : Int32) (0 : Int32) (0 : Int32)
set_option maxRecDepth 100000 in
set_option maxHeartbeats 4000000 in
theorem w_X8_town {E : Cx} {l : Launch} {res : Int32 × Hp} {ad : Nat → Nat} {fu : Nat} {S : Hp} {o : Nat} {x1 : Int32} (K : Kx E cX8_town RX8 (rmd 6 0 0)) (X : Bx E l yX8_town 8 (some .int) 0 0 ad (QI res)) (h : F_X8_town fu S o x1 = some res) : J E 0 0 0 [(0, vR (some o)), (1, vI x1)] [] S ad := by
  refine j_iload_n K dX8_town_0 rfl 1 rfl ?_
  refine j_iconst (v := (0 : Int32)) K dX8_town_1 (by decide) ?_
  refine j_iconst (v := (3 : Int32)) K dX8_town_2 (by decide) ?_
  obtain ⟨v3, S3, e3, h⟩ := bd2 h
  refine j_cI (st := []) K (r_S (vs := [vI x1, vI (0 : Int32), vI (3 : Int32)]) (n := 3) K (c_X8_in e3) dX8_town_3 z812 z813 z13 z814 ⟨zd_X8_in, rfl, rfl, rfl, ⟨Nat.le_of_ble_eq_true rfl, Nat.le_of_ble_eq_true rfl⟩, Nat.le_of_ble_eq_true rfl, Nat.le_of_ble_eq_true rfl, Nat.le_of_ble_eq_true rfl⟩) rfl ?_
  refine j_if_ne K dX8_town_6 (fun c6 => ?_) (fun c6 => ?_)
  · replace h := ie c6 h
    refine j_iconst (v := (-1 : Int32)) K dX8_town_12 (by decide) ?_
    refine j_istore_n (lv' := [(2, vI (-1 : Int32)), (0, vR (some o)), (1, vI x1)]) K dX8_town_13 rfl X.2.2.1 (by decide) rfl ?_
    refine j_iconst (v := (0 : Int32)) K dX8_town_14 (by decide) ?_
    refine j_istore_n (lv' := [(3, vI (0 : Int32)), (2, vI (-1 : Int32)), (0, vR (some o)), (1, vI x1)]) K dX8_town_15 rfl X.2.2.1 (by decide) rfl ?_
    refine j_iconst (v := (0 : Int32)) K dX8_town_16 (by decide) ?_
    refine j_istore (lv' := [(4, vI (0 : Int32)), (3, vI (0 : Int32)), (2, vI (-1 : Int32)), (0, vR (some o)), (1, vI x1)]) K dX8_town_17 X.2.2.1 (by decide) rfl ?_
    refine j_iconst (v := (0 : Int32)) K dX8_town_19 (by decide) ?_
    refine j_istore (lv' := [(5, vI (0 : Int32)), (4, vI (0 : Int32)), (3, vI (0 : Int32)), (2, vI (-1 : Int32)), (0, vR (some o)), (1, vI x1)]) K dX8_town_20 X.2.2.1 (by decide) rfl ?_
    refine j_iconst (v := (0 : Int32)) K dX8_town_22 (by decide) ?_
    refine j_istore (lv' := [(6, vI (0 : Int32)), (5, vI (0 : Int32)), (4, vI (0 : Int32)), (3, vI (0 : Int32)), (2, vI (-1 : Int32)), (0, vR (some o)), (1, vI x1)]) K dX8_town_23 X.2.2.1 (by decide) rfl ?_
    exact j_sub [5, 6, 4, 3, 2, 1, 0] rfl (w_X8_town_25 K X _ _ _ _ _ _ _ h)
  · replace h := it c6 h
    refine j_bipush (v := (-2 : Int32)) K dX8_town_9 (by decide) ?_
    exact j_iret K X dX8_town_11 h
theorem c_X8_town {l : Launch} {fu : Nat} {S : Hp} {o : Nat} {x1 : Int32} {res : Int32 × Hp} (h : F_X8_town fu S o x1 = some res) : Ct l yX8_town cX8_town 8 (some .int) (rmd 6 0 0) 0 0 [vR (some o), vI x1] S (QI res) :=
  z_entry (by decide +kernel) (Nat.le_of_ble_eq_true rfl) (fun E ad K X => w_X8_town K X h)

theorem dX8_night_0 : decode cX8_night 0 = .ok (.aload_n 0, 1) ∧ 0 + 1 = 1 := ⟨by decide +kernel, rfl⟩
theorem dX8_night_1 : decode cX8_night 1 = .ok (.getfield 94, 3) ∧ 1 + 3 = 4 := ⟨by decide +kernel, rfl⟩
theorem dX8_night_4 : decode cX8_night 4 = .ok (.sipush 999, 3) ∧ 4 + 3 = 7 := ⟨by decide +kernel, rfl⟩
theorem dX8_night_7 : decode cX8_night 7 = .ok (.if_icmp .ne 6, 3) ∧ 7 + 3 = 10 ∧ ((7 : Nat) : Int) + (6) = ((13 : Nat) : Int) := ⟨by decide +kernel, rfl, by decide⟩
theorem dX8_night_10 : decode cX8_night 10 = .ok (.bipush (-3), 2) ∧ 10 + 2 = 12 := ⟨by decide +kernel, rfl⟩
theorem dX8_night_12 : decode cX8_night 12 = .ok (.ireturn, 1) := by decide +kernel
theorem dX8_night_13 : decode cX8_night 13 = .ok (.aload_n 0, 1) ∧ 13 + 1 = 14 := ⟨by decide +kernel, rfl⟩
theorem dX8_night_14 : decode cX8_night 14 = .ok (.invokevirtual 223, 3) := by decide +kernel
theorem dX8_night_17 : decode cX8_night 17 = .ok (.istore_n 1, 1) ∧ 17 + 1 = 18 := ⟨by decide +kernel, rfl⟩
theorem dX8_night_18 : decode cX8_night 18 = .ok (.iconst 0, 1) ∧ 18 + 1 = 19 := ⟨by decide +kernel, rfl⟩
theorem dX8_night_19 : decode cX8_night 19 = .ok (.istore_n 2, 1) ∧ 19 + 1 = 20 := ⟨by decide +kernel, rfl⟩
theorem dX8_night_20 : decode cX8_night 20 = .ok (.iload_n 2, 1) ∧ 20 + 1 = 21 := ⟨by decide +kernel, rfl⟩
theorem dX8_night_21 : decode cX8_night 21 = .ok (.aload_n 0, 1) ∧ 21 + 1 = 22 := ⟨by decide +kernel, rfl⟩
theorem dX8_night_22 : decode cX8_night 22 = .ok (.getfield 84, 3) ∧ 22 + 3 = 25 := ⟨by decide +kernel, rfl⟩
theorem dX8_night_25 : decode cX8_night 25 = .ok (.if_icmp .ge 25, 3) ∧ 25 + 3 = 28 ∧ ((25 : Nat) : Int) + (25) = ((50 : Nat) : Int) := ⟨by decide +kernel, rfl, by decide⟩
theorem dX8_night_28 : decode cX8_night 28 = .ok (.aload_n 0, 1) ∧ 28 + 1 = 29 := ⟨by decide +kernel, rfl⟩
theorem dX8_night_29 : decode cX8_night 29 = .ok (.getfield 67, 3) ∧ 29 + 3 = 32 := ⟨by decide +kernel, rfl⟩
theorem dX8_night_32 : decode cX8_night 32 = .ok (.iload_n 2, 1) ∧ 32 + 1 = 33 := ⟨by decide +kernel, rfl⟩
theorem dX8_night_33 : decode cX8_night 33 = .ok (.aload_n 0, 1) ∧ 33 + 1 = 34 := ⟨by decide +kernel, rfl⟩
theorem dX8_night_34 : decode cX8_night 34 = .ok (.iload_n 2, 1) ∧ 34 + 1 = 35 := ⟨by decide +kernel, rfl⟩
theorem dX8_night_35 : decode cX8_night 35 = .ok (.aload_n 0, 1) ∧ 35 + 1 = 36 := ⟨by decide +kernel, rfl⟩
theorem dX8_night_36 : decode cX8_night 36 = .ok (.iload_n 2, 1) ∧ 36 + 1 = 37 := ⟨by decide +kernel, rfl⟩
theorem dX8_night_37 : decode cX8_night 37 = .ok (.invokevirtual 214, 3) := by decide +kernel
theorem dX8_night_40 : decode cX8_night 40 = .ok (.invokevirtual 220, 3) := by decide +kernel
theorem dX8_night_43 : decode cX8_night 43 = .ok (.iastore, 1) ∧ 43 + 1 = 44 := ⟨by decide +kernel, rfl⟩
theorem dX8_night_44 : decode cX8_night 44 = .ok (.iinc 2 1, 3) ∧ 44 + 3 = 47 := ⟨by decide +kernel, rfl⟩
theorem dX8_night_47 : decode cX8_night 47 = .ok (.goto (-27), 3) ∧ ((47 : Nat) : Int) + (-27) = ((20 : Nat) : Int) := ⟨by decide +kernel, by decide⟩
theorem dX8_night_50 : decode cX8_night 50 = .ok (.iconst 0, 1) ∧ 50 + 1 = 51 := ⟨by decide +kernel, rfl⟩
theorem dX8_night_51 : decode cX8_night 51 = .ok (.istore_n 2, 1) ∧ 51 + 1 = 52 := ⟨by decide +kernel, rfl⟩
theorem dX8_night_52 : decode cX8_night 52 = .ok (.iload_n 2, 1) ∧ 52 + 1 = 53 := ⟨by decide +kernel, rfl⟩
theorem dX8_night_53 : decode cX8_night 53 = .ok (.aload_n 0, 1) ∧ 53 + 1 = 54 := ⟨by decide +kernel, rfl⟩
theorem dX8_night_54 : decode cX8_night 54 = .ok (.getfield 84, 3) ∧ 54 + 3 = 57 := ⟨by decide +kernel, rfl⟩
theorem dX8_night_57 : decode cX8_night 57 = .ok (.if_icmp .ge 25, 3) ∧ 57 + 3 = 60 ∧ ((57 : Nat) : Int) + (25) = ((82 : Nat) : Int) := ⟨by decide +kernel, rfl, by decide⟩
theorem dX8_night_60 : decode cX8_night 60 = .ok (.aload_n 0, 1) ∧ 60 + 1 = 61 := ⟨by decide +kernel, rfl⟩
theorem dX8_night_61 : decode cX8_night 61 = .ok (.getfield 16, 3) ∧ 61 + 3 = 64 := ⟨by decide +kernel, rfl⟩
theorem dX8_night_64 : decode cX8_night 64 = .ok (.iconst 2, 1) ∧ 64 + 1 = 65 := ⟨by decide +kernel, rfl⟩
theorem dX8_night_65 : decode cX8_night 65 = .ok (.iload_n 2, 1) ∧ 65 + 1 = 66 := ⟨by decide +kernel, rfl⟩
theorem dX8_night_66 : decode cX8_night 66 = .ok (.imul, 1) ∧ 66 + 1 = 67 := ⟨by decide +kernel, rfl⟩
theorem dX8_night_67 : decode cX8_night 67 = .ok (.iconst 1, 1) ∧ 67 + 1 = 68 := ⟨by decide +kernel, rfl⟩
theorem dX8_night_68 : decode cX8_night 68 = .ok (.iadd, 1) ∧ 68 + 1 = 69 := ⟨by decide +kernel, rfl⟩
theorem dX8_night_69 : decode cX8_night 69 = .ok (.aload_n 0, 1) ∧ 69 + 1 = 70 := ⟨by decide +kernel, rfl⟩
theorem dX8_night_70 : decode cX8_night 70 = .ok (.getfield 67, 3) ∧ 70 + 3 = 73 := ⟨by decide +kernel, rfl⟩
theorem dX8_night_73 : decode cX8_night 73 = .ok (.iload_n 2, 1) ∧ 73 + 1 = 74 := ⟨by decide +kernel, rfl⟩
theorem dX8_night_74 : decode cX8_night 74 = .ok (.iaload, 1) ∧ 74 + 1 = 75 := ⟨by decide +kernel, rfl⟩
theorem dX8_night_75 : decode cX8_night 75 = .ok (.iastore, 1) ∧ 75 + 1 = 76 := ⟨by decide +kernel, rfl⟩
theorem dX8_night_76 : decode cX8_night 76 = .ok (.iinc 2 1, 3) ∧ 76 + 3 = 79 := ⟨by decide +kernel, rfl⟩
theorem dX8_night_79 : decode cX8_night 79 = .ok (.goto (-27), 3) ∧ ((79 : Nat) : Int) + (-27) = ((52 : Nat) : Int) := ⟨by decide +kernel, by decide⟩
theorem dX8_night_82 : decode cX8_night 82 = .ok (.aload_n 0, 1) ∧ 82 + 1 = 83 := ⟨by decide +kernel, rfl⟩
theorem dX8_night_83 : decode cX8_night 83 = .ok (.iconst 0, 1) ∧ 83 + 1 = 84 := ⟨by decide +kernel, rfl⟩
theorem dX8_night_84 : decode cX8_night 84 = .ok (.putfield 91, 3) ∧ 84 + 3 = 87 := ⟨by decide +kernel, rfl⟩
theorem dX8_night_87 : decode cX8_night 87 = .ok (.aload_n 0, 1) ∧ 87 + 1 = 88 := ⟨by decide +kernel, rfl⟩
theorem dX8_night_88 : decode cX8_night 88 = .ok (.dup, 1) ∧ 88 + 1 = 89 := ⟨by decide +kernel, rfl⟩
theorem dX8_night_89 : decode cX8_night 89 = .ok (.getfield 94, 3) ∧ 89 + 3 = 92 := ⟨by decide +kernel, rfl⟩
theorem dX8_night_92 : decode cX8_night 92 = .ok (.iconst 1, 1) ∧ 92 + 1 = 93 := ⟨by decide +kernel, rfl⟩
theorem dX8_night_93 : decode cX8_night 93 = .ok (.iadd, 1) ∧ 93 + 1 = 94 := ⟨by decide +kernel, rfl⟩
theorem dX8_night_94 : decode cX8_night 94 = .ok (.putfield 94, 3) ∧ 94 + 3 = 97 := ⟨by decide +kernel, rfl⟩
theorem dX8_night_97 : decode cX8_night 97 = .ok (.iload_n 1, 1) ∧ 97 + 1 = 98 := ⟨by decide +kernel, rfl⟩
theorem dX8_night_98 : decode cX8_night 98 = .ok (.ireturn, 1) := by decide +kernel
def L_X8_night_52 (k52 : Hp → Int32 → Option (Int32 × Hp)) (fu : Nat) (o : Nat) (x1 : Int32) (S : Hp) (x2 : Int32) : Option (Int32 × Hp) :=
  (gI S (some o) 6 0).bind fun v54 =>
  if v54 ≤ x2 then
    (pI S (some o) 6 7 (0 : Int32)).bind fun S84 =>
    (gI S84 (some o) 6 8).bind fun v89 =>
    (pI S84 (some o) 6 8 (v89 + (1 : Int32))).bind fun S94 =>
    some (x1, S94)
  else
    (gR S (some o) 6 3).bind fun v61 =>
    (gR S (some o) 6 33).bind fun v70 =>
    (aG S v70 x2).bind fun v74 =>
    (aP S v61 (((2 : Int32) * x2) + (1 : Int32)) v74).bind fun S75 =>
    k52 S75 (x2 + (1 : Int32))
set_option maxRecDepth 100000 in
set_option maxHeartbeats 4000000 in
theorem wl_X8_night_52 {E : Cx} {l : Launch} {res : Int32 × Hp} {ad : Nat → Nat} {k52 : Hp → Int32 → Option (Int32 × Hp)} {fu : Nat} {o : Nat} {S : Hp} {x1 : Int32} {x2 : Int32} (K : Kx E cX8_night RX8 (rmd 6 0 0)) (X : Bx E l yX8_night 3 (some .int) 0 0 ad (QI res)) (hk52 : ∀ (S : Hp) (x2 : Int32), k52 S x2 = some res → J E 0 0 52 [(0, vR (some o)), (1, vI x1), (2, vI x2)] [] S ad) (h : L_X8_night_52 k52 fu o x1 S x2 = some res) : J E 0 0 52 [(0, vR (some o)), (1, vI x1), (2, vI x2)] [] S ad := by
  refine j_iload_n K dX8_night_52 rfl 2 rfl ?_
  refine j_aload_n K dX8_night_53 rfl 0 rfl ?_
  obtain ⟨v54, e54, h⟩ := bd h
  refine fgX8_84 K dX8_night_54 e54 ?_
  refine j_icmp_ge K dX8_night_57 (fun c57 => ?_) (fun c57 => ?_)
  · replace h := it c57 h
    refine j_aload_n K dX8_night_82 rfl 0 rfl ?_
    refine j_iconst (v := (0 : Int32)) K dX8_night_83 (by decide) ?_
    obtain ⟨S84, e84, h⟩ := bd h
    refine fpX8_91 K dX8_night_84 e84 ?_
    refine j_aload_n K dX8_night_87 rfl 0 rfl ?_
    refine j_dup K dX8_night_88 rfl ?_
    obtain ⟨v89, e89, h⟩ := bd h
    refine fgX8_94 K dX8_night_89 e89 ?_
    refine j_iconst (v := (1 : Int32)) K dX8_night_92 (by decide) ?_
    refine j_iadd K dX8_night_93 ?_
    obtain ⟨S94, e94, h⟩ := bd h
    refine fpX8_94 K dX8_night_94 e94 ?_
    refine j_iload_n K dX8_night_97 rfl 1 rfl ?_
    exact j_iret K X dX8_night_98 h
  · replace h := ie c57 h
    refine j_aload_n K dX8_night_60 rfl 0 rfl ?_
    obtain ⟨v61, e61, h⟩ := bd h
    refine fgX8_16 K dX8_night_61 e61 ?_
    refine j_iconst (v := (2 : Int32)) K dX8_night_64 (by decide) ?_
    refine j_iload_n K dX8_night_65 rfl 2 rfl ?_
    refine j_imul K dX8_night_66 ?_
    refine j_iconst (v := (1 : Int32)) K dX8_night_67 (by decide) ?_
    refine j_iadd K dX8_night_68 ?_
    refine j_aload_n K dX8_night_69 rfl 0 rfl ?_
    obtain ⟨v70, e70, h⟩ := bd h
    refine fgX8_67 K dX8_night_70 e70 ?_
    refine j_iload_n K dX8_night_73 rfl 2 rfl ?_
    obtain ⟨v74, e74, h⟩ := bd h
    refine j_aG K dX8_night_74 e74 ?_
    obtain ⟨S75, e75, h⟩ := bd h
    refine j_aP K dX8_night_75 e75 ?_
    refine j_iinc (q := 2) (v := (x2 + (1 : Int32))) (lv' := [(2, vI (x2 + (1 : Int32))), (0, vR (some o)), (1, vI x1)]) K dX8_night_76 rfl rfl X.2.2.1 (by decide) rfl ?_
    refine j_goto K dX8_night_79 ?_
    exact j_sub [1, 2, 0] rfl (hk52 _ _ h)
def B_X8_night_52 (fu : Nat) (o : Nat) (x1 : Int32) : Nat → Hp → Int32 → Option (Int32 × Hp)
  | 0 => fun _ _ => none
  | n + 1 => L_X8_night_52 (B_X8_night_52 fu o x1 n) fu o x1
theorem w_X8_night_52 {E : Cx} {l : Launch} {res : Int32 × Hp} {ad : Nat → Nat} {fu : Nat} {o : Nat} {x1 : Int32} (K : Kx E cX8_night RX8 (rmd 6 0 0)) (X : Bx E l yX8_night 3 (some .int) 0 0 ad (QI res)) : ∀ (n : Nat) (S : Hp) (x2 : Int32), B_X8_night_52 fu o x1 n S x2 = some res → J E 0 0 52 [(0, vR (some o)), (1, vI x1), (2, vI x2)] [] S ad := by
  intro n
  induction n with
  | zero =>
    intro S x2 h
    cases h
  | succ n ih =>
    intro S x2 h
    exact wl_X8_night_52 K X ih h
def L_X8_night_20 (k20 : Hp → Int32 → Option (Int32 × Hp)) (fu : Nat) (o : Nat) (x1 : Int32) (S : Hp) (x2 : Int32) : Option (Int32 × Hp) :=
  (gI S (some o) 6 0).bind fun v22 =>
  if v22 ≤ x2 then
    B_X8_night_52 fu o x1 fu S (0 : Int32)
  else
    (gR S (some o) 6 33).bind fun v29 =>
    (ob S 6 (some o)).bind fun _ =>
    b2 (F_X8_beatsOf fu S o x2) fun v37 S37 =>
    (ob S37 6 (some o)).bind fun _ =>
    b2 (F_X8_thoughtOf fu S37 o x2 v37) fun v40 S40 =>
    (aP S40 v29 x2 v40).bind fun S43 =>
    k20 S43 (x2 + (1 : Int32))
set_option maxRecDepth 100000 in
set_option maxHeartbeats 4000000 in
theorem wl_X8_night_20 {E : Cx} {l : Launch} {res : Int32 × Hp} {ad : Nat → Nat} {k20 : Hp → Int32 → Option (Int32 × Hp)} {fu : Nat} {o : Nat} {S : Hp} {x1 : Int32} {x2 : Int32} (K : Kx E cX8_night RX8 (rmd 6 0 0)) (X : Bx E l yX8_night 3 (some .int) 0 0 ad (QI res)) (hk20 : ∀ (S : Hp) (x2 : Int32), k20 S x2 = some res → J E 0 0 20 [(0, vR (some o)), (1, vI x1), (2, vI x2)] [] S ad) (h : L_X8_night_20 k20 fu o x1 S x2 = some res) : J E 0 0 20 [(0, vR (some o)), (1, vI x1), (2, vI x2)] [] S ad := by
  refine j_iload_n K dX8_night_20 rfl 2 rfl ?_
  refine j_aload_n K dX8_night_21 rfl 0 rfl ?_
  obtain ⟨v22, e22, h⟩ := bd h
  refine fgX8_84 K dX8_night_22 e22 ?_
  refine j_icmp_ge K dX8_night_25 (fun c25 => ?_) (fun c25 => ?_)
  · replace h := it c25 h
    refine j_iconst (v := (0 : Int32)) K dX8_night_50 (by decide) ?_
    refine j_istore_n (lv' := [(2, vI (0 : Int32)), (0, vR (some o)), (1, vI x1)]) K dX8_night_51 rfl X.2.2.1 (by decide) rfl ?_
    exact j_sub [1, 2, 0] rfl (w_X8_night_52 K X _ _ _ h)
  · replace h := ie c25 h
    refine j_aload_n K dX8_night_28 rfl 0 rfl ?_
    obtain ⟨v29, e29, h⟩ := bd h
    refine fgX8_67 K dX8_night_29 e29 ?_
    refine j_iload_n K dX8_night_32 rfl 2 rfl ?_
    refine j_aload_n K dX8_night_33 rfl 0 rfl ?_
    refine j_iload_n K dX8_night_34 rfl 2 rfl ?_
    refine j_aload_n K dX8_night_35 rfl 0 rfl ?_
    refine j_iload_n K dX8_night_36 rfl 2 rfl ?_
    obtain ⟨w37, ew37, h⟩ := bd h
    have ho37 := obS ew37
    obtain ⟨v37, S37, e37, h⟩ := bd2 h
    refine j_cI (st := [vI x2, vR (some o), vI x2, vR v29]) K (r_V (vs := [vI x2]) (n := 1) (o := o) K (c_X8_beatsOf e37) ho37 (by decide) rfl dX8_night_37 z1052 z1054 zs41 z13 z1055 ⟨zd_X8_beatsOf, rfl, rfl, rfl, ⟨Nat.le_of_ble_eq_true rfl, Nat.le_of_ble_eq_true rfl⟩, Nat.le_of_ble_eq_true rfl, Nat.le_of_ble_eq_true rfl, Nat.le_of_ble_eq_true rfl⟩) rfl ?_
    obtain ⟨w40, ew40, h⟩ := bd h
    have ho40 := obS ew40
    obtain ⟨v40, S40, e40, h⟩ := bd2 h
    refine j_cI (st := [vI x2, vR v29]) K (r_V (vs := [vI x2, vI v37]) (n := 2) (o := o) K (c_X8_thoughtOf e40) ho40 (by decide) rfl dX8_night_40 z1080 z1082 zs48 z13 z1083 ⟨zd_X8_thoughtOf, rfl, rfl, rfl, ⟨Nat.le_of_ble_eq_true rfl, Nat.le_of_ble_eq_true rfl⟩, Nat.le_of_ble_eq_true rfl, Nat.le_of_ble_eq_true rfl, Nat.le_of_ble_eq_true rfl⟩) rfl ?_
    obtain ⟨S43, e43, h⟩ := bd h
    refine j_aP K dX8_night_43 e43 ?_
    refine j_iinc (q := 2) (v := (x2 + (1 : Int32))) (lv' := [(2, vI (x2 + (1 : Int32))), (0, vR (some o)), (1, vI x1)]) K dX8_night_44 rfl rfl X.2.2.1 (by decide) rfl ?_
    refine j_goto K dX8_night_47 ?_
    exact j_sub [1, 2, 0] rfl (hk20 _ _ h)
def B_X8_night_20 (fu : Nat) (o : Nat) (x1 : Int32) : Nat → Hp → Int32 → Option (Int32 × Hp)
  | 0 => fun _ _ => none
  | n + 1 => L_X8_night_20 (B_X8_night_20 fu o x1 n) fu o x1
theorem w_X8_night_20 {E : Cx} {l : Launch} {res : Int32 × Hp} {ad : Nat → Nat} {fu : Nat} {o : Nat} {x1 : Int32} (K : Kx E cX8_night RX8 (rmd 6 0 0)) (X : Bx E l yX8_night 3 (some .int) 0 0 ad (QI res)) : ∀ (n : Nat) (S : Hp) (x2 : Int32), B_X8_night_20 fu o x1 n S x2 = some res → J E 0 0 20 [(0, vR (some o)), (1, vI x1), (2, vI x2)] [] S ad := by
  intro n
  induction n with
  | zero =>
    intro S x2 h
    cases h
  | succ n ih =>
    intro S x2 h
    exact wl_X8_night_20 K X ih h
def F_X8_night (fu : Nat) (S : Hp) (o : Nat) : Option (Int32 × Hp) :=
  (gI S (some o) 6 8).bind fun v1 =>
  if v1 = (999 : Int32) then
    some ((-3 : Int32), S)
  else
    (ob S 6 (some o)).bind fun _ =>
    b2 (F_X8_beatsAll fu S o) fun v14 S14 =>
    B_X8_night_20 fu o v14 fu S14 (0 : Int32)
set_option maxRecDepth 100000 in
set_option maxHeartbeats 4000000 in
theorem w_X8_night {E : Cx} {l : Launch} {res : Int32 × Hp} {ad : Nat → Nat} {fu : Nat} {S : Hp} {o : Nat} (K : Kx E cX8_night RX8 (rmd 6 0 0)) (X : Bx E l yX8_night 3 (some .int) 0 0 ad (QI res)) (h : F_X8_night fu S o = some res) : J E 0 0 0 [(0, vR (some o))] [] S ad := by
  refine j_aload_n K dX8_night_0 rfl 0 rfl ?_
  obtain ⟨v1, e1, h⟩ := bd h
  refine fgX8_94 K dX8_night_1 e1 ?_
  refine j_sipush (v := (999 : Int32)) K dX8_night_4 (by decide) ?_
  refine j_icmp_ne K dX8_night_7 (fun c7 => ?_) (fun c7 => ?_)
  · replace h := ie c7 h
    refine j_aload_n K dX8_night_13 rfl 0 rfl ?_
    obtain ⟨w14, ew14, h⟩ := bd h
    have ho14 := obS ew14
    obtain ⟨v14, S14, e14, h⟩ := bd2 h
    refine j_cI (st := []) K (r_V (vs := []) (n := 0) (o := o) K (c_X8_beatsAll e14) ho14 (by decide) rfl dX8_night_14 z1088 z1090 zs49 z13 z1091 ⟨zd_X8_beatsAll, rfl, rfl, rfl, ⟨Nat.le_of_ble_eq_true rfl, Nat.le_of_ble_eq_true rfl⟩, Nat.le_of_ble_eq_true rfl, Nat.le_of_ble_eq_true rfl, Nat.le_of_ble_eq_true rfl⟩) rfl ?_
    refine j_istore_n (lv' := [(1, vI v14), (0, vR (some o))]) K dX8_night_17 rfl X.2.2.1 (by decide) rfl ?_
    refine j_iconst (v := (0 : Int32)) K dX8_night_18 (by decide) ?_
    refine j_istore_n (lv' := [(2, vI (0 : Int32)), (1, vI v14), (0, vR (some o))]) K dX8_night_19 rfl X.2.2.1 (by decide) rfl ?_
    exact j_sub [2, 1, 0] rfl (w_X8_night_20 K X _ _ _ h)
  · replace h := it c7 h
    refine j_bipush (v := (-3 : Int32)) K dX8_night_10 (by decide) ?_
    exact j_iret K X dX8_night_12 h
theorem c_X8_night {l : Launch} {fu : Nat} {S : Hp} {o : Nat} {res : Int32 × Hp} (h : F_X8_night fu S o = some res) : Ct l yX8_night cX8_night 3 (some .int) (rmd 6 0 0) 0 0 [vR (some o)] S (QI res) :=
  z_entry (by decide +kernel) (Nat.le_of_ble_eq_true rfl) (fun E ad K X => w_X8_night K X h)

theorem dX8_tellsStrokes_0 : decode cX8_tellsStrokes 0 = .ok (.iconst 0, 1) ∧ 0 + 1 = 1 := ⟨by decide +kernel, rfl⟩
theorem dX8_tellsStrokes_1 : decode cX8_tellsStrokes 1 = .ok (.istore_n 2, 1) ∧ 1 + 1 = 2 := ⟨by decide +kernel, rfl⟩
theorem dX8_tellsStrokes_2 : decode cX8_tellsStrokes 2 = .ok (.iload_n 2, 1) ∧ 2 + 1 = 3 := ⟨by decide +kernel, rfl⟩
theorem dX8_tellsStrokes_3 : decode cX8_tellsStrokes 3 = .ok (.aload_n 0, 1) ∧ 3 + 1 = 4 := ⟨by decide +kernel, rfl⟩
theorem dX8_tellsStrokes_4 : decode cX8_tellsStrokes 4 = .ok (.getfield 91, 3) ∧ 4 + 3 = 7 := ⟨by decide +kernel, rfl⟩
theorem dX8_tellsStrokes_7 : decode cX8_tellsStrokes 7 = .ok (.if_icmp .ge 21, 3) ∧ 7 + 3 = 10 ∧ ((7 : Nat) : Int) + (21) = ((28 : Nat) : Int) := ⟨by decide +kernel, rfl, by decide⟩
theorem dX8_tellsStrokes_10 : decode cX8_tellsStrokes 10 = .ok (.aload_n 0, 1) ∧ 10 + 1 = 11 := ⟨by decide +kernel, rfl⟩
theorem dX8_tellsStrokes_11 : decode cX8_tellsStrokes 11 = .ok (.getfield 70, 3) ∧ 11 + 3 = 14 := ⟨by decide +kernel, rfl⟩
theorem dX8_tellsStrokes_14 : decode cX8_tellsStrokes 14 = .ok (.iload_n 2, 1) ∧ 14 + 1 = 15 := ⟨by decide +kernel, rfl⟩
theorem dX8_tellsStrokes_15 : decode cX8_tellsStrokes 15 = .ok (.aload_n 0, 1) ∧ 15 + 1 = 16 := ⟨by decide +kernel, rfl⟩
theorem dX8_tellsStrokes_16 : decode cX8_tellsStrokes 16 = .ok (.iload_n 1, 1) ∧ 16 + 1 = 17 := ⟨by decide +kernel, rfl⟩
theorem dX8_tellsStrokes_17 : decode cX8_tellsStrokes 17 = .ok (.iload_n 2, 1) ∧ 17 + 1 = 18 := ⟨by decide +kernel, rfl⟩
theorem dX8_tellsStrokes_18 : decode cX8_tellsStrokes 18 = .ok (.invokevirtual 199, 3) := by decide +kernel
theorem dX8_tellsStrokes_21 : decode cX8_tellsStrokes 21 = .ok (.iastore, 1) ∧ 21 + 1 = 22 := ⟨by decide +kernel, rfl⟩
theorem dX8_tellsStrokes_22 : decode cX8_tellsStrokes 22 = .ok (.iinc 2 1, 3) ∧ 22 + 3 = 25 := ⟨by decide +kernel, rfl⟩
theorem dX8_tellsStrokes_25 : decode cX8_tellsStrokes 25 = .ok (.goto (-23), 3) ∧ ((25 : Nat) : Int) + (-23) = ((2 : Nat) : Int) := ⟨by decide +kernel, by decide⟩
theorem dX8_tellsStrokes_28 : decode cX8_tellsStrokes 28 = .ok (.return_, 1) := by decide +kernel
def L_X8_tellsStrokes_2 (k2 : Hp → Int32 → Option (Hp)) (fu : Nat) (o : Nat) (x1 : Int32) (S : Hp) (x2 : Int32) : Option (Hp) :=
  (gI S (some o) 6 7).bind fun v4 =>
  if v4 ≤ x2 then
    some S
  else
    (gR S (some o) 6 34).bind fun v11 =>
    (ob S 6 (some o)).bind fun _ =>
    b2 (F_X8_strokesOf fu S o x1 x2) fun v18 S18 =>
    (aP S18 v11 x2 v18).bind fun S21 =>
    k2 S21 (x2 + (1 : Int32))
set_option maxRecDepth 100000 in
set_option maxHeartbeats 4000000 in
theorem wl_X8_tellsStrokes_2 {E : Cx} {l : Launch} {res : Hp} {ad : Nat → Nat} {k2 : Hp → Int32 → Option (Hp)} {fu : Nat} {o : Nat} {S : Hp} {x1 : Int32} {x2 : Int32} (K : Kx E cX8_tellsStrokes RX8 (rmd 4 0 0)) (X : Bx E l yX8_tellsStrokes 3 none 0 0 ad (QV res)) (hk2 : ∀ (S : Hp) (x2 : Int32), k2 S x2 = some res → J E 0 0 2 [(0, vR (some o)), (1, vI x1), (2, vI x2)] [] S ad) (h : L_X8_tellsStrokes_2 k2 fu o x1 S x2 = some res) : J E 0 0 2 [(0, vR (some o)), (1, vI x1), (2, vI x2)] [] S ad := by
  refine j_iload_n K dX8_tellsStrokes_2 rfl 2 rfl ?_
  refine j_aload_n K dX8_tellsStrokes_3 rfl 0 rfl ?_
  obtain ⟨v4, e4, h⟩ := bd h
  refine fgX8_91 K dX8_tellsStrokes_4 e4 ?_
  refine j_icmp_ge K dX8_tellsStrokes_7 (fun c7 => ?_) (fun c7 => ?_)
  · replace h := it c7 h
    exact j_vret K X dX8_tellsStrokes_28 h
  · replace h := ie c7 h
    refine j_aload_n K dX8_tellsStrokes_10 rfl 0 rfl ?_
    obtain ⟨v11, e11, h⟩ := bd h
    refine fgX8_70 K dX8_tellsStrokes_11 e11 ?_
    refine j_iload_n K dX8_tellsStrokes_14 rfl 2 rfl ?_
    refine j_aload_n K dX8_tellsStrokes_15 rfl 0 rfl ?_
    refine j_iload_n K dX8_tellsStrokes_16 rfl 1 rfl ?_
    refine j_iload_n K dX8_tellsStrokes_17 rfl 2 rfl ?_
    obtain ⟨w18, ew18, h⟩ := bd h
    have ho18 := obS ew18
    obtain ⟨v18, S18, e18, h⟩ := bd2 h
    refine j_cI (st := [vI x2, vR v11]) K (r_V (vs := [vI x1, vI x2]) (n := 2) (o := o) K (c_X8_strokesOf e18) ho18 (by decide) rfl dX8_tellsStrokes_18 z1056 z1058 zs42 z13 z1059 ⟨zd_X8_strokesOf, rfl, rfl, rfl, ⟨Nat.le_of_ble_eq_true rfl, Nat.le_of_ble_eq_true rfl⟩, Nat.le_of_ble_eq_true rfl, Nat.le_of_ble_eq_true rfl, Nat.le_of_ble_eq_true rfl⟩) rfl ?_
    obtain ⟨S21, e21, h⟩ := bd h
    refine j_aP K dX8_tellsStrokes_21 e21 ?_
    refine j_iinc (q := 2) (v := (x2 + (1 : Int32))) (lv' := [(2, vI (x2 + (1 : Int32))), (0, vR (some o)), (1, vI x1)]) K dX8_tellsStrokes_22 rfl rfl X.2.2.1 (by decide) rfl ?_
    refine j_goto K dX8_tellsStrokes_25 ?_
    exact j_sub [1, 2, 0] rfl (hk2 _ _ h)
def B_X8_tellsStrokes_2 (fu : Nat) (o : Nat) (x1 : Int32) : Nat → Hp → Int32 → Option (Hp)
  | 0 => fun _ _ => none
  | n + 1 => L_X8_tellsStrokes_2 (B_X8_tellsStrokes_2 fu o x1 n) fu o x1
theorem w_X8_tellsStrokes_2 {E : Cx} {l : Launch} {res : Hp} {ad : Nat → Nat} {fu : Nat} {o : Nat} {x1 : Int32} (K : Kx E cX8_tellsStrokes RX8 (rmd 4 0 0)) (X : Bx E l yX8_tellsStrokes 3 none 0 0 ad (QV res)) : ∀ (n : Nat) (S : Hp) (x2 : Int32), B_X8_tellsStrokes_2 fu o x1 n S x2 = some res → J E 0 0 2 [(0, vR (some o)), (1, vI x1), (2, vI x2)] [] S ad := by
  intro n
  induction n with
  | zero =>
    intro S x2 h
    cases h
  | succ n ih =>
    intro S x2 h
    exact wl_X8_tellsStrokes_2 K X ih h
def F_X8_tellsStrokes (fu : Nat) (S : Hp) (o : Nat) (x1 : Int32) : Option (Hp) :=
  B_X8_tellsStrokes_2 fu o x1 fu S (0 : Int32)
set_option maxRecDepth 100000 in
set_option maxHeartbeats 4000000 in
theorem w_X8_tellsStrokes {E : Cx} {l : Launch} {res : Hp} {ad : Nat → Nat} {fu : Nat} {S : Hp} {o : Nat} {x1 : Int32} (K : Kx E cX8_tellsStrokes RX8 (rmd 4 0 0)) (X : Bx E l yX8_tellsStrokes 3 none 0 0 ad (QV res)) (h : F_X8_tellsStrokes fu S o x1 = some res) : J E 0 0 0 [(0, vR (some o)), (1, vI x1)] [] S ad := by
  refine j_iconst (v := (0 : Int32)) K dX8_tellsStrokes_0 (by decide) ?_
  refine j_istore_n (lv' := [(2, vI (0 : Int32)), (0, vR (some o)), (1, vI x1)]) K dX8_tellsStrokes_1 rfl X.2.2.1 (by decide) rfl ?_
  exact j_sub [1, 2, 0] rfl (w_X8_tellsStrokes_2 K X _ _ _ h)
theorem c_X8_tellsStrokes {l : Launch} {fu : Nat} {S : Hp} {o : Nat} {x1 : Int32} {res : Hp} (h : F_X8_tellsStrokes fu S o x1 = some res) : Ct l yX8_tellsStrokes cX8_tellsStrokes 3 none (rmd 4 0 0) 0 0 [vR (some o), vI x1] S (QV res) :=
  z_entry (by decide +kernel) (Nat.le_of_ble_eq_true rfl) (fun E ad K X => w_X8_tellsStrokes K X h)

theorem dX8_beatsBy_0 : decode cX8_beatsBy 0 = .ok (.iconst 0, 1) ∧ 0 + 1 = 1 := ⟨by decide +kernel, rfl⟩
theorem dX8_beatsBy_1 : decode cX8_beatsBy 1 = .ok (.istore_n 2, 1) ∧ 1 + 1 = 2 := ⟨by decide +kernel, rfl⟩
theorem dX8_beatsBy_2 : decode cX8_beatsBy 2 = .ok (.iconst 0, 1) ∧ 2 + 1 = 3 := ⟨by decide +kernel, rfl⟩
theorem dX8_beatsBy_3 : decode cX8_beatsBy 3 = .ok (.istore_n 3, 1) ∧ 3 + 1 = 4 := ⟨by decide +kernel, rfl⟩
theorem dX8_beatsBy_4 : decode cX8_beatsBy 4 = .ok (.iload_n 3, 1) ∧ 4 + 1 = 5 := ⟨by decide +kernel, rfl⟩
theorem dX8_beatsBy_5 : decode cX8_beatsBy 5 = .ok (.aload_n 0, 1) ∧ 5 + 1 = 6 := ⟨by decide +kernel, rfl⟩
theorem dX8_beatsBy_6 : decode cX8_beatsBy 6 = .ok (.getfield 91, 3) ∧ 6 + 3 = 9 := ⟨by decide +kernel, rfl⟩
theorem dX8_beatsBy_9 : decode cX8_beatsBy 9 = .ok (.if_icmp .ge 31, 3) ∧ 9 + 3 = 12 ∧ ((9 : Nat) : Int) + (31) = ((40 : Nat) : Int) := ⟨by decide +kernel, rfl, by decide⟩
theorem dX8_beatsBy_12 : decode cX8_beatsBy 12 = .ok (.iload_n 2, 1) ∧ 12 + 1 = 13 := ⟨by decide +kernel, rfl⟩
theorem dX8_beatsBy_13 : decode cX8_beatsBy 13 = .ok (.iload_n 1, 1) ∧ 13 + 1 = 14 := ⟨by decide +kernel, rfl⟩
theorem dX8_beatsBy_14 : decode cX8_beatsBy 14 = .ok (.iload_n 3, 1) ∧ 14 + 1 = 15 := ⟨by decide +kernel, rfl⟩
theorem dX8_beatsBy_15 : decode cX8_beatsBy 15 = .ok (.ishr, 1) ∧ 15 + 1 = 16 := ⟨by decide +kernel, rfl⟩
theorem dX8_beatsBy_16 : decode cX8_beatsBy 16 = .ok (.iconst 1, 1) ∧ 16 + 1 = 17 := ⟨by decide +kernel, rfl⟩
theorem dX8_beatsBy_17 : decode cX8_beatsBy 17 = .ok (.iand, 1) ∧ 17 + 1 = 18 := ⟨by decide +kernel, rfl⟩
theorem dX8_beatsBy_18 : decode cX8_beatsBy 18 = .ok (.iconst 1, 1) ∧ 18 + 1 = 19 := ⟨by decide +kernel, rfl⟩
theorem dX8_beatsBy_19 : decode cX8_beatsBy 19 = .ok (.if_icmp .ne 12, 3) ∧ 19 + 3 = 22 ∧ ((19 : Nat) : Int) + (12) = ((31 : Nat) : Int) := ⟨by decide +kernel, rfl, by decide⟩
theorem dX8_beatsBy_22 : decode cX8_beatsBy 22 = .ok (.aload_n 0, 1) ∧ 22 + 1 = 23 := ⟨by decide +kernel, rfl⟩
theorem dX8_beatsBy_23 : decode cX8_beatsBy 23 = .ok (.getfield 70, 3) ∧ 23 + 3 = 26 := ⟨by decide +kernel, rfl⟩
theorem dX8_beatsBy_26 : decode cX8_beatsBy 26 = .ok (.iload_n 3, 1) ∧ 26 + 1 = 27 := ⟨by decide +kernel, rfl⟩
theorem dX8_beatsBy_27 : decode cX8_beatsBy 27 = .ok (.iaload, 1) ∧ 27 + 1 = 28 := ⟨by decide +kernel, rfl⟩
theorem dX8_beatsBy_28 : decode cX8_beatsBy 28 = .ok (.goto 4, 3) ∧ ((28 : Nat) : Int) + (4) = ((32 : Nat) : Int) := ⟨by decide +kernel, by decide⟩
theorem dX8_beatsBy_31 : decode cX8_beatsBy 31 = .ok (.iconst 0, 1) ∧ 31 + 1 = 32 := ⟨by decide +kernel, rfl⟩
theorem dX8_beatsBy_32 : decode cX8_beatsBy 32 = .ok (.iadd, 1) ∧ 32 + 1 = 33 := ⟨by decide +kernel, rfl⟩
theorem dX8_beatsBy_33 : decode cX8_beatsBy 33 = .ok (.istore_n 2, 1) ∧ 33 + 1 = 34 := ⟨by decide +kernel, rfl⟩
theorem dX8_beatsBy_34 : decode cX8_beatsBy 34 = .ok (.iinc 3 1, 3) ∧ 34 + 3 = 37 := ⟨by decide +kernel, rfl⟩
theorem dX8_beatsBy_37 : decode cX8_beatsBy 37 = .ok (.goto (-33), 3) ∧ ((37 : Nat) : Int) + (-33) = ((4 : Nat) : Int) := ⟨by decide +kernel, by decide⟩
theorem dX8_beatsBy_40 : decode cX8_beatsBy 40 = .ok (.iload_n 2, 1) ∧ 40 + 1 = 41 := ⟨by decide +kernel, rfl⟩
theorem dX8_beatsBy_41 : decode cX8_beatsBy 41 = .ok (.ireturn, 1) := by decide +kernel
def B_X8_beatsBy_32 (k4 : Hp → Int32 → Int32 → Option (Int32 × Hp)) (fu : Nat) (o : Nat) (S : Hp) (x1 : Int32) (x3 : Int32) (s0 : Int32) (s1 : Int32) : Option (Int32 × Hp) :=
  k4 S (s1 + s0) (x3 + (1 : Int32))
set_option maxRecDepth 100000 in
set_option maxHeartbeats 4000000 in
theorem w_X8_beatsBy_32 {E : Cx} {l : Launch} {res : Int32 × Hp} {ad : Nat → Nat} {k4 : Hp → Int32 → Int32 → Option (Int32 × Hp)} {fu : Nat} {o : Nat} {S : Hp} {x1 : Int32} {x3 : Int32} {s0 : Int32} {s1 : Int32} (K : Kx E cX8_beatsBy RX8 (rmd 0 0 0)) (X : Bx E l yX8_beatsBy 4 (some .int) 0 0 ad (QI res)) (hk4 : ∀ (S : Hp) (x2 : Int32) (x3 : Int32), k4 S x2 x3 = some res → J E 0 0 4 [(0, vR (some o)), (1, vI x1), (2, vI x2), (3, vI x3)] [] S ad) (h : B_X8_beatsBy_32 k4 fu o S x1 x3 s0 s1 = some res) : J E 0 0 32 [(0, vR (some o)), (1, vI x1), (3, vI x3)] [vI s0, vI s1] S ad := by
  refine j_iadd K dX8_beatsBy_32 ?_
  refine j_istore_n (lv' := [(2, vI (s1 + s0)), (0, vR (some o)), (1, vI x1), (3, vI x3)]) K dX8_beatsBy_33 rfl X.2.2.1 (by decide) rfl ?_
  refine j_iinc (q := 3) (v := (x3 + (1 : Int32))) (lv' := [(3, vI (x3 + (1 : Int32))), (2, vI (s1 + s0)), (0, vR (some o)), (1, vI x1)]) K dX8_beatsBy_34 rfl rfl X.2.2.1 (by decide) rfl ?_
  refine j_goto K dX8_beatsBy_37 ?_
  exact j_sub [2, 3, 1, 0] rfl (hk4 _ _ _ h)
def L_X8_beatsBy_4 (k4 : Hp → Int32 → Int32 → Option (Int32 × Hp)) (fu : Nat) (o : Nat) (x1 : Int32) (S : Hp) (x2 : Int32) (x3 : Int32) : Option (Int32 × Hp) :=
  (gI S (some o) 6 7).bind fun v6 =>
  if v6 ≤ x3 then
    some (x2, S)
  else
    if ((x1 >>> (x3 &&& 31)) &&& (1 : Int32)) = (1 : Int32) then
      (gR S (some o) 6 34).bind fun v23 =>
      (aG S v23 x3).bind fun v27 =>
      B_X8_beatsBy_32 k4 fu o S x1 x3 v27 x2
    else
      B_X8_beatsBy_32 k4 fu o S x1 x3 (0 : Int32) x2
set_option maxRecDepth 100000 in
set_option maxHeartbeats 4000000 in
theorem wl_X8_beatsBy_4 {E : Cx} {l : Launch} {res : Int32 × Hp} {ad : Nat → Nat} {k4 : Hp → Int32 → Int32 → Option (Int32 × Hp)} {fu : Nat} {o : Nat} {S : Hp} {x1 : Int32} {x2 : Int32} {x3 : Int32} (K : Kx E cX8_beatsBy RX8 (rmd 0 0 0)) (X : Bx E l yX8_beatsBy 4 (some .int) 0 0 ad (QI res)) (hk4 : ∀ (S : Hp) (x2 : Int32) (x3 : Int32), k4 S x2 x3 = some res → J E 0 0 4 [(0, vR (some o)), (1, vI x1), (2, vI x2), (3, vI x3)] [] S ad) (h : L_X8_beatsBy_4 k4 fu o x1 S x2 x3 = some res) : J E 0 0 4 [(0, vR (some o)), (1, vI x1), (2, vI x2), (3, vI x3)] [] S ad := by
  refine j_iload_n K dX8_beatsBy_4 rfl 3 rfl ?_
  refine j_aload_n K dX8_beatsBy_5 rfl 0 rfl ?_
  obtain ⟨v6, e6, h⟩ := bd h
  refine fgX8_91 K dX8_beatsBy_6 e6 ?_
  refine j_icmp_ge K dX8_beatsBy_9 (fun c9 => ?_) (fun c9 => ?_)
  · replace h := it c9 h
    refine j_iload_n K dX8_beatsBy_40 rfl 2 rfl ?_
    exact j_iret K X dX8_beatsBy_41 h
  · replace h := ie c9 h
    refine j_iload_n K dX8_beatsBy_12 rfl 2 rfl ?_
    refine j_iload_n K dX8_beatsBy_13 rfl 1 rfl ?_
    refine j_iload_n K dX8_beatsBy_14 rfl 3 rfl ?_
    refine j_ishr K dX8_beatsBy_15 ?_
    refine j_iconst (v := (1 : Int32)) K dX8_beatsBy_16 (by decide) ?_
    refine j_iand K dX8_beatsBy_17 ?_
    refine j_iconst (v := (1 : Int32)) K dX8_beatsBy_18 (by decide) ?_
    refine j_icmp_ne K dX8_beatsBy_19 (fun c19 => ?_) (fun c19 => ?_)
    · replace h := ie c19 h
      refine j_iconst (v := (0 : Int32)) K dX8_beatsBy_31 (by decide) ?_
      exact j_sub [0, 1, 3] rfl (w_X8_beatsBy_32 K X hk4 h)
    · replace h := it c19 h
      refine j_aload_n K dX8_beatsBy_22 rfl 0 rfl ?_
      obtain ⟨v23, e23, h⟩ := bd h
      refine fgX8_70 K dX8_beatsBy_23 e23 ?_
      refine j_iload_n K dX8_beatsBy_26 rfl 3 rfl ?_
      obtain ⟨v27, e27, h⟩ := bd h
      refine j_aG K dX8_beatsBy_27 e27 ?_
      refine j_goto K dX8_beatsBy_28 ?_
      exact j_sub [0, 1, 3] rfl (w_X8_beatsBy_32 K X hk4 h)
def B_X8_beatsBy_4 (fu : Nat) (o : Nat) (x1 : Int32) : Nat → Hp → Int32 → Int32 → Option (Int32 × Hp)
  | 0 => fun _ _ _ => none
  | n + 1 => L_X8_beatsBy_4 (B_X8_beatsBy_4 fu o x1 n) fu o x1
theorem w_X8_beatsBy_4 {E : Cx} {l : Launch} {res : Int32 × Hp} {ad : Nat → Nat} {fu : Nat} {o : Nat} {x1 : Int32} (K : Kx E cX8_beatsBy RX8 (rmd 0 0 0)) (X : Bx E l yX8_beatsBy 4 (some .int) 0 0 ad (QI res)) : ∀ (n : Nat) (S : Hp) (x2 : Int32) (x3 : Int32), B_X8_beatsBy_4 fu o x1 n S x2 x3 = some res → J E 0 0 4 [(0, vR (some o)), (1, vI x1), (2, vI x2), (3, vI x3)] [] S ad := by
  intro n
  induction n with
  | zero =>
    intro S x2 x3 h
    cases h
  | succ n ih =>
    intro S x2 x3 h
    exact wl_X8_beatsBy_4 K X ih h
def F_X8_beatsBy (fu : Nat) (S : Hp) (o : Nat) (x1 : Int32) : Option (Int32 × Hp) :=
  B_X8_beatsBy_4 fu o x1 fu S (0 : Int32) (0 : Int32)
set_option maxRecDepth 100000 in
set_option maxHeartbeats 4000000 in
theorem w_X8_beatsBy {E : Cx} {l : Launch} {res : Int32 × Hp} {ad : Nat → Nat} {fu : Nat} {S : Hp} {o : Nat} {x1 : Int32} (K : Kx E cX8_beatsBy RX8 (rmd 0 0 0)) (X : Bx E l yX8_beatsBy 4 (some .int) 0 0 ad (QI res)) (h : F_X8_beatsBy fu S o x1 = some res) : J E 0 0 0 [(0, vR (some o)), (1, vI x1)] [] S ad := by
  refine j_iconst (v := (0 : Int32)) K dX8_beatsBy_0 (by decide) ?_
  refine j_istore_n (lv' := [(2, vI (0 : Int32)), (0, vR (some o)), (1, vI x1)]) K dX8_beatsBy_1 rfl X.2.2.1 (by decide) rfl ?_
  refine j_iconst (v := (0 : Int32)) K dX8_beatsBy_2 (by decide) ?_
  refine j_istore_n (lv' := [(3, vI (0 : Int32)), (2, vI (0 : Int32)), (0, vR (some o)), (1, vI x1)]) K dX8_beatsBy_3 rfl X.2.2.1 (by decide) rfl ?_
  exact j_sub [2, 3, 1, 0] rfl (w_X8_beatsBy_4 K X _ _ _ _ h)
theorem c_X8_beatsBy {l : Launch} {fu : Nat} {S : Hp} {o : Nat} {x1 : Int32} {res : Int32 × Hp} (h : F_X8_beatsBy fu S o x1 = some res) : Ct l yX8_beatsBy cX8_beatsBy 4 (some .int) (rmd 0 0 0) 0 0 [vR (some o), vI x1] S (QI res) :=
  z_entry (by decide +kernel) (Nat.le_of_ble_eq_true rfl) (fun E ad K X => w_X8_beatsBy K X h)

theorem dX8_ownSet_0 : decode cX8_ownSet 0 = .ok (.iconst 0, 1) ∧ 0 + 1 = 1 := ⟨by decide +kernel, rfl⟩
theorem dX8_ownSet_1 : decode cX8_ownSet 1 = .ok (.istore_n 2, 1) ∧ 1 + 1 = 2 := ⟨by decide +kernel, rfl⟩
theorem dX8_ownSet_2 : decode cX8_ownSet 2 = .ok (.iconst 0, 1) ∧ 2 + 1 = 3 := ⟨by decide +kernel, rfl⟩
theorem dX8_ownSet_3 : decode cX8_ownSet 3 = .ok (.istore_n 3, 1) ∧ 3 + 1 = 4 := ⟨by decide +kernel, rfl⟩
theorem dX8_ownSet_4 : decode cX8_ownSet 4 = .ok (.iload_n 3, 1) ∧ 4 + 1 = 5 := ⟨by decide +kernel, rfl⟩
theorem dX8_ownSet_5 : decode cX8_ownSet 5 = .ok (.aload_n 0, 1) ∧ 5 + 1 = 6 := ⟨by decide +kernel, rfl⟩
theorem dX8_ownSet_6 : decode cX8_ownSet 6 = .ok (.getfield 91, 3) ∧ 6 + 3 = 9 := ⟨by decide +kernel, rfl⟩
theorem dX8_ownSet_9 : decode cX8_ownSet 9 = .ok (.if_icmp .ge 28, 3) ∧ 9 + 3 = 12 ∧ ((9 : Nat) : Int) + (28) = ((37 : Nat) : Int) := ⟨by decide +kernel, rfl, by decide⟩
theorem dX8_ownSet_12 : decode cX8_ownSet 12 = .ok (.iload_n 2, 1) ∧ 12 + 1 = 13 := ⟨by decide +kernel, rfl⟩
theorem dX8_ownSet_13 : decode cX8_ownSet 13 = .ok (.aload_n 0, 1) ∧ 13 + 1 = 14 := ⟨by decide +kernel, rfl⟩
theorem dX8_ownSet_14 : decode cX8_ownSet 14 = .ok (.iload_n 1, 1) ∧ 14 + 1 = 15 := ⟨by decide +kernel, rfl⟩
theorem dX8_ownSet_15 : decode cX8_ownSet 15 = .ok (.iload_n 3, 1) ∧ 15 + 1 = 16 := ⟨by decide +kernel, rfl⟩
theorem dX8_ownSet_16 : decode cX8_ownSet 16 = .ok (.invokevirtual 188, 3) := by decide +kernel
theorem dX8_ownSet_19 : decode cX8_ownSet 19 = .ok (.ifCond .eq 9, 3) ∧ 19 + 3 = 22 ∧ ((19 : Nat) : Int) + (9) = ((28 : Nat) : Int) := ⟨by decide +kernel, rfl, by decide⟩
theorem dX8_ownSet_22 : decode cX8_ownSet 22 = .ok (.iconst 1, 1) ∧ 22 + 1 = 23 := ⟨by decide +kernel, rfl⟩
theorem dX8_ownSet_23 : decode cX8_ownSet 23 = .ok (.iload_n 3, 1) ∧ 23 + 1 = 24 := ⟨by decide +kernel, rfl⟩
theorem dX8_ownSet_24 : decode cX8_ownSet 24 = .ok (.ishl, 1) ∧ 24 + 1 = 25 := ⟨by decide +kernel, rfl⟩
theorem dX8_ownSet_25 : decode cX8_ownSet 25 = .ok (.goto 4, 3) ∧ ((25 : Nat) : Int) + (4) = ((29 : Nat) : Int) := ⟨by decide +kernel, by decide⟩
theorem dX8_ownSet_28 : decode cX8_ownSet 28 = .ok (.iconst 0, 1) ∧ 28 + 1 = 29 := ⟨by decide +kernel, rfl⟩
theorem dX8_ownSet_29 : decode cX8_ownSet 29 = .ok (.ior, 1) ∧ 29 + 1 = 30 := ⟨by decide +kernel, rfl⟩
theorem dX8_ownSet_30 : decode cX8_ownSet 30 = .ok (.istore_n 2, 1) ∧ 30 + 1 = 31 := ⟨by decide +kernel, rfl⟩
theorem dX8_ownSet_31 : decode cX8_ownSet 31 = .ok (.iinc 3 1, 3) ∧ 31 + 3 = 34 := ⟨by decide +kernel, rfl⟩
theorem dX8_ownSet_34 : decode cX8_ownSet 34 = .ok (.goto (-30), 3) ∧ ((34 : Nat) : Int) + (-30) = ((4 : Nat) : Int) := ⟨by decide +kernel, by decide⟩
theorem dX8_ownSet_37 : decode cX8_ownSet 37 = .ok (.iload_n 2, 1) ∧ 37 + 1 = 38 := ⟨by decide +kernel, rfl⟩
theorem dX8_ownSet_38 : decode cX8_ownSet 38 = .ok (.ireturn, 1) := by decide +kernel
def B_X8_ownSet_29 (k4 : Hp → Int32 → Int32 → Option (Int32 × Hp)) (fu : Nat) (o : Nat) (S : Hp) (x1 : Int32) (x3 : Int32) (s0 : Int32) (s1 : Int32) : Option (Int32 × Hp) :=
  k4 S (s1 ||| s0) (x3 + (1 : Int32))
set_option maxRecDepth 100000 in
set_option maxHeartbeats 4000000 in
theorem w_X8_ownSet_29 {E : Cx} {l : Launch} {res : Int32 × Hp} {ad : Nat → Nat} {k4 : Hp → Int32 → Int32 → Option (Int32 × Hp)} {fu : Nat} {o : Nat} {S : Hp} {x1 : Int32} {x3 : Int32} {s0 : Int32} {s1 : Int32} (K : Kx E cX8_ownSet RX8 (rmd 1 0 0)) (X : Bx E l yX8_ownSet 4 (some .int) 0 0 ad (QI res)) (hk4 : ∀ (S : Hp) (x2 : Int32) (x3 : Int32), k4 S x2 x3 = some res → J E 0 0 4 [(0, vR (some o)), (1, vI x1), (2, vI x2), (3, vI x3)] [] S ad) (h : B_X8_ownSet_29 k4 fu o S x1 x3 s0 s1 = some res) : J E 0 0 29 [(0, vR (some o)), (1, vI x1), (3, vI x3)] [vI s0, vI s1] S ad := by
  refine j_ior K dX8_ownSet_29 ?_
  refine j_istore_n (lv' := [(2, vI (s1 ||| s0)), (0, vR (some o)), (1, vI x1), (3, vI x3)]) K dX8_ownSet_30 rfl X.2.2.1 (by decide) rfl ?_
  refine j_iinc (q := 3) (v := (x3 + (1 : Int32))) (lv' := [(3, vI (x3 + (1 : Int32))), (2, vI (s1 ||| s0)), (0, vR (some o)), (1, vI x1)]) K dX8_ownSet_31 rfl rfl X.2.2.1 (by decide) rfl ?_
  refine j_goto K dX8_ownSet_34 ?_
  exact j_sub [2, 3, 1, 0] rfl (hk4 _ _ _ h)
def L_X8_ownSet_4 (k4 : Hp → Int32 → Int32 → Option (Int32 × Hp)) (fu : Nat) (o : Nat) (x1 : Int32) (S : Hp) (x2 : Int32) (x3 : Int32) : Option (Int32 × Hp) :=
  (gI S (some o) 6 7).bind fun v6 =>
  if v6 ≤ x3 then
    some (x2, S)
  else
    (ob S 6 (some o)).bind fun _ =>
    b2 (F_X8_did S o x1 x3) fun v16 S16 =>
    if v16 = 0 then
      B_X8_ownSet_29 k4 fu o S16 x1 x3 (0 : Int32) x2
    else
      B_X8_ownSet_29 k4 fu o S16 x1 x3 ((1 : Int32) <<< (x3 &&& 31)) x2
set_option maxRecDepth 100000 in
set_option maxHeartbeats 4000000 in
theorem wl_X8_ownSet_4 {E : Cx} {l : Launch} {res : Int32 × Hp} {ad : Nat → Nat} {k4 : Hp → Int32 → Int32 → Option (Int32 × Hp)} {fu : Nat} {o : Nat} {S : Hp} {x1 : Int32} {x2 : Int32} {x3 : Int32} (K : Kx E cX8_ownSet RX8 (rmd 1 0 0)) (X : Bx E l yX8_ownSet 4 (some .int) 0 0 ad (QI res)) (hk4 : ∀ (S : Hp) (x2 : Int32) (x3 : Int32), k4 S x2 x3 = some res → J E 0 0 4 [(0, vR (some o)), (1, vI x1), (2, vI x2), (3, vI x3)] [] S ad) (h : L_X8_ownSet_4 k4 fu o x1 S x2 x3 = some res) : J E 0 0 4 [(0, vR (some o)), (1, vI x1), (2, vI x2), (3, vI x3)] [] S ad := by
  refine j_iload_n K dX8_ownSet_4 rfl 3 rfl ?_
  refine j_aload_n K dX8_ownSet_5 rfl 0 rfl ?_
  obtain ⟨v6, e6, h⟩ := bd h
  refine fgX8_91 K dX8_ownSet_6 e6 ?_
  refine j_icmp_ge K dX8_ownSet_9 (fun c9 => ?_) (fun c9 => ?_)
  · replace h := it c9 h
    refine j_iload_n K dX8_ownSet_37 rfl 2 rfl ?_
    exact j_iret K X dX8_ownSet_38 h
  · replace h := ie c9 h
    refine j_iload_n K dX8_ownSet_12 rfl 2 rfl ?_
    refine j_aload_n K dX8_ownSet_13 rfl 0 rfl ?_
    refine j_iload_n K dX8_ownSet_14 rfl 1 rfl ?_
    refine j_iload_n K dX8_ownSet_15 rfl 3 rfl ?_
    obtain ⟨w16, ew16, h⟩ := bd h
    have ho16 := obS ew16
    obtain ⟨v16, S16, e16, h⟩ := bd2 h
    refine j_cI (st := [vI x2]) K (r_V (vs := [vI x1, vI x3]) (n := 2) (o := o) K (c_X8_did e16) ho16 (by decide) rfl dX8_ownSet_16 z1040 z1042 zs39 z13 z1043 ⟨zd_X8_did, rfl, rfl, rfl, ⟨Nat.le_of_ble_eq_true rfl, Nat.le_of_ble_eq_true rfl⟩, Nat.le_of_ble_eq_true rfl, Nat.le_of_ble_eq_true rfl, Nat.le_of_ble_eq_true rfl⟩) rfl ?_
    refine j_if_eq K dX8_ownSet_19 (fun c19 => ?_) (fun c19 => ?_)
    · replace h := it c19 h
      refine j_iconst (v := (0 : Int32)) K dX8_ownSet_28 (by decide) ?_
      exact j_sub [0, 1, 3] rfl (w_X8_ownSet_29 K X hk4 h)
    · replace h := ie c19 h
      refine j_iconst (v := (1 : Int32)) K dX8_ownSet_22 (by decide) ?_
      refine j_iload_n K dX8_ownSet_23 rfl 3 rfl ?_
      refine j_ishl K dX8_ownSet_24 ?_
      refine j_goto K dX8_ownSet_25 ?_
      exact j_sub [0, 1, 3] rfl (w_X8_ownSet_29 K X hk4 h)
def B_X8_ownSet_4 (fu : Nat) (o : Nat) (x1 : Int32) : Nat → Hp → Int32 → Int32 → Option (Int32 × Hp)
  | 0 => fun _ _ _ => none
  | n + 1 => L_X8_ownSet_4 (B_X8_ownSet_4 fu o x1 n) fu o x1
theorem w_X8_ownSet_4 {E : Cx} {l : Launch} {res : Int32 × Hp} {ad : Nat → Nat} {fu : Nat} {o : Nat} {x1 : Int32} (K : Kx E cX8_ownSet RX8 (rmd 1 0 0)) (X : Bx E l yX8_ownSet 4 (some .int) 0 0 ad (QI res)) : ∀ (n : Nat) (S : Hp) (x2 : Int32) (x3 : Int32), B_X8_ownSet_4 fu o x1 n S x2 x3 = some res → J E 0 0 4 [(0, vR (some o)), (1, vI x1), (2, vI x2), (3, vI x3)] [] S ad := by
  intro n
  induction n with
  | zero =>
    intro S x2 x3 h
    cases h
  | succ n ih =>
    intro S x2 x3 h
    exact wl_X8_ownSet_4 K X ih h
def F_X8_ownSet (fu : Nat) (S : Hp) (o : Nat) (x1 : Int32) : Option (Int32 × Hp) :=
  B_X8_ownSet_4 fu o x1 fu S (0 : Int32) (0 : Int32)
set_option maxRecDepth 100000 in
set_option maxHeartbeats 4000000 in
theorem w_X8_ownSet {E : Cx} {l : Launch} {res : Int32 × Hp} {ad : Nat → Nat} {fu : Nat} {S : Hp} {o : Nat} {x1 : Int32} (K : Kx E cX8_ownSet RX8 (rmd 1 0 0)) (X : Bx E l yX8_ownSet 4 (some .int) 0 0 ad (QI res)) (h : F_X8_ownSet fu S o x1 = some res) : J E 0 0 0 [(0, vR (some o)), (1, vI x1)] [] S ad := by
  refine j_iconst (v := (0 : Int32)) K dX8_ownSet_0 (by decide) ?_
  refine j_istore_n (lv' := [(2, vI (0 : Int32)), (0, vR (some o)), (1, vI x1)]) K dX8_ownSet_1 rfl X.2.2.1 (by decide) rfl ?_
  refine j_iconst (v := (0 : Int32)) K dX8_ownSet_2 (by decide) ?_
  refine j_istore_n (lv' := [(3, vI (0 : Int32)), (2, vI (0 : Int32)), (0, vR (some o)), (1, vI x1)]) K dX8_ownSet_3 rfl X.2.2.1 (by decide) rfl ?_
  exact j_sub [2, 3, 1, 0] rfl (w_X8_ownSet_4 K X _ _ _ _ h)
theorem c_X8_ownSet {l : Launch} {fu : Nat} {S : Hp} {o : Nat} {x1 : Int32} {res : Int32 × Hp} (h : F_X8_ownSet fu S o x1 = some res) : Ct l yX8_ownSet cX8_ownSet 4 (some .int) (rmd 1 0 0) 0 0 [vR (some o), vI x1] S (QI res) :=
  z_entry (by decide +kernel) (Nat.le_of_ble_eq_true rfl) (fun E ad K X => w_X8_ownSet K X h)

theorem dX8_best_0 : decode cX8_best 0 = .ok (.aload_n 0, 1) ∧ 0 + 1 = 1 := ⟨by decide +kernel, rfl⟩
theorem dX8_best_1 : decode cX8_best 1 = .ok (.iload_n 1, 1) ∧ 1 + 1 = 2 := ⟨by decide +kernel, rfl⟩
theorem dX8_best_2 : decode cX8_best 2 = .ok (.invokevirtual 182, 3) := by decide +kernel
theorem dX8_best_5 : decode cX8_best 5 = .ok (.ifCond .ne 6, 3) ∧ 5 + 3 = 8 ∧ ((5 : Nat) : Int) + (6) = ((11 : Nat) : Int) := ⟨by decide +kernel, rfl, by decide⟩
theorem dX8_best_8 : decode cX8_best 8 = .ok (.bipush (-5), 2) ∧ 8 + 2 = 10 := ⟨by decide +kernel, rfl⟩
theorem dX8_best_10 : decode cX8_best 10 = .ok (.ireturn, 1) := by decide +kernel
theorem dX8_best_11 : decode cX8_best 11 = .ok (.iload_n 2, 1) ∧ 11 + 1 = 12 := ⟨by decide +kernel, rfl⟩
theorem dX8_best_12 : decode cX8_best 12 = .ok (.iconst 0, 1) ∧ 12 + 1 = 13 := ⟨by decide +kernel, rfl⟩
theorem dX8_best_13 : decode cX8_best 13 = .ok (.iconst 1, 1) ∧ 13 + 1 = 14 := ⟨by decide +kernel, rfl⟩
theorem dX8_best_14 : decode cX8_best 14 = .ok (.invokestatic 87, 3) := by decide +kernel
theorem dX8_best_17 : decode cX8_best 17 = .ok (.ifCond .ne 6, 3) ∧ 17 + 3 = 20 ∧ ((17 : Nat) : Int) + (6) = ((23 : Nat) : Int) := ⟨by decide +kernel, rfl, by decide⟩
theorem dX8_best_20 : decode cX8_best 20 = .ok (.bipush (-7), 2) ∧ 20 + 2 = 22 := ⟨by decide +kernel, rfl⟩
theorem dX8_best_22 : decode cX8_best 22 = .ok (.ireturn, 1) := by decide +kernel
theorem dX8_best_23 : decode cX8_best 23 = .ok (.aload_n 0, 1) ∧ 23 + 1 = 24 := ⟨by decide +kernel, rfl⟩
theorem dX8_best_24 : decode cX8_best 24 = .ok (.iload_n 1, 1) ∧ 24 + 1 = 25 := ⟨by decide +kernel, rfl⟩
theorem dX8_best_25 : decode cX8_best 25 = .ok (.invokevirtual 226, 3) := by decide +kernel
theorem dX8_best_28 : decode cX8_best 28 = .ok (.aload_n 0, 1) ∧ 28 + 1 = 29 := ⟨by decide +kernel, rfl⟩
theorem dX8_best_29 : decode cX8_best 29 = .ok (.iload_n 1, 1) ∧ 29 + 1 = 30 := ⟨by decide +kernel, rfl⟩
theorem dX8_best_30 : decode cX8_best 30 = .ok (.invokevirtual 229, 3) := by decide +kernel
theorem dX8_best_33 : decode cX8_best 33 = .ok (.istore_n 3, 1) ∧ 33 + 1 = 34 := ⟨by decide +kernel, rfl⟩
theorem dX8_best_34 : decode cX8_best 34 = .ok (.iconst (-1), 1) ∧ 34 + 1 = 35 := ⟨by decide +kernel, rfl⟩
theorem dX8_best_35 : decode cX8_best 35 = .ok (.istore 4, 2) ∧ 35 + 2 = 37 := ⟨by decide +kernel, rfl⟩
theorem dX8_best_37 : decode cX8_best 37 = .ok (.iconst 0, 1) ∧ 37 + 1 = 38 := ⟨by decide +kernel, rfl⟩
theorem dX8_best_38 : decode cX8_best 38 = .ok (.istore 5, 2) ∧ 38 + 2 = 40 := ⟨by decide +kernel, rfl⟩
theorem dX8_best_40 : decode cX8_best 40 = .ok (.iconst 0, 1) ∧ 40 + 1 = 41 := ⟨by decide +kernel, rfl⟩
theorem dX8_best_41 : decode cX8_best 41 = .ok (.istore 6, 2) ∧ 41 + 2 = 43 := ⟨by decide +kernel, rfl⟩
theorem dX8_best_43 : decode cX8_best 43 = .ok (.iload 6, 2) ∧ 43 + 2 = 45 := ⟨by decide +kernel, rfl⟩
theorem dX8_best_45 : decode cX8_best 45 = .ok (.iconst 1, 1) ∧ 45 + 1 = 46 := ⟨by decide +kernel, rfl⟩
theorem dX8_best_46 : decode cX8_best 46 = .ok (.aload_n 0, 1) ∧ 46 + 1 = 47 := ⟨by decide +kernel, rfl⟩
theorem dX8_best_47 : decode cX8_best 47 = .ok (.getfield 91, 3) ∧ 47 + 3 = 50 := ⟨by decide +kernel, rfl⟩
theorem dX8_best_50 : decode cX8_best 50 = .ok (.ishl, 1) ∧ 50 + 1 = 51 := ⟨by decide +kernel, rfl⟩
theorem dX8_best_51 : decode cX8_best 51 = .ok (.if_icmp .ge 79, 3) ∧ 51 + 3 = 54 ∧ ((51 : Nat) : Int) + (79) = ((130 : Nat) : Int) := ⟨by decide +kernel, rfl, by decide⟩
theorem dX8_best_54 : decode cX8_best 54 = .ok (.iload 6, 2) ∧ 54 + 2 = 56 := ⟨by decide +kernel, rfl⟩
theorem dX8_best_56 : decode cX8_best 56 = .ok (.iload_n 3, 1) ∧ 56 + 1 = 57 := ⟨by decide +kernel, rfl⟩
theorem dX8_best_57 : decode cX8_best 57 = .ok (.iconst (-1), 1) ∧ 57 + 1 = 58 := ⟨by decide +kernel, rfl⟩
theorem dX8_best_58 : decode cX8_best 58 = .ok (.ixor, 1) ∧ 58 + 1 = 59 := ⟨by decide +kernel, rfl⟩
theorem dX8_best_59 : decode cX8_best 59 = .ok (.iand, 1) ∧ 59 + 1 = 60 := ⟨by decide +kernel, rfl⟩
theorem dX8_best_60 : decode cX8_best 60 = .ok (.ifCond .ne 64, 3) ∧ 60 + 3 = 63 ∧ ((60 : Nat) : Int) + (64) = ((124 : Nat) : Int) := ⟨by decide +kernel, rfl, by decide⟩
theorem dX8_best_63 : decode cX8_best 63 = .ok (.aload_n 0, 1) ∧ 63 + 1 = 64 := ⟨by decide +kernel, rfl⟩
theorem dX8_best_64 : decode cX8_best 64 = .ok (.iload_n 1, 1) ∧ 64 + 1 = 65 := ⟨by decide +kernel, rfl⟩
theorem dX8_best_65 : decode cX8_best 65 = .ok (.aload_n 0, 1) ∧ 65 + 1 = 66 := ⟨by decide +kernel, rfl⟩
theorem dX8_best_66 : decode cX8_best 66 = .ok (.iload 6, 2) ∧ 66 + 2 = 68 := ⟨by decide +kernel, rfl⟩
theorem dX8_best_68 : decode cX8_best 68 = .ok (.invokevirtual 232, 3) := by decide +kernel
theorem dX8_best_71 : decode cX8_best 71 = .ok (.invokevirtual 220, 3) := by decide +kernel
theorem dX8_best_74 : decode cX8_best 74 = .ok (.istore 7, 2) ∧ 74 + 2 = 76 := ⟨by decide +kernel, rfl⟩
theorem dX8_best_76 : decode cX8_best 76 = .ok (.iload 4, 2) ∧ 76 + 2 = 78 := ⟨by decide +kernel, rfl⟩
theorem dX8_best_78 : decode cX8_best 78 = .ok (.iconst (-1), 1) ∧ 78 + 1 = 79 := ⟨by decide +kernel, rfl⟩
theorem dX8_best_79 : decode cX8_best 79 = .ok (.if_icmp .eq 10, 3) ∧ 79 + 3 = 82 ∧ ((79 : Nat) : Int) + (10) = ((89 : Nat) : Int) := ⟨by decide +kernel, rfl, by decide⟩
theorem dX8_best_82 : decode cX8_best 82 = .ok (.iload 7, 2) ∧ 82 + 2 = 84 := ⟨by decide +kernel, rfl⟩
theorem dX8_best_84 : decode cX8_best 84 = .ok (.iload 5, 2) ∧ 84 + 2 = 86 := ⟨by decide +kernel, rfl⟩
theorem dX8_best_86 : decode cX8_best 86 = .ok (.if_icmp .le 7, 3) ∧ 86 + 3 = 89 ∧ ((86 : Nat) : Int) + (7) = ((93 : Nat) : Int) := ⟨by decide +kernel, rfl, by decide⟩
theorem dX8_best_89 : decode cX8_best 89 = .ok (.iconst 1, 1) ∧ 89 + 1 = 90 := ⟨by decide +kernel, rfl⟩
theorem dX8_best_90 : decode cX8_best 90 = .ok (.goto 4, 3) ∧ ((90 : Nat) : Int) + (4) = ((94 : Nat) : Int) := ⟨by decide +kernel, by decide⟩
theorem dX8_best_93 : decode cX8_best 93 = .ok (.iconst 0, 1) ∧ 93 + 1 = 94 := ⟨by decide +kernel, rfl⟩
theorem dX8_best_94 : decode cX8_best 94 = .ok (.istore 8, 2) ∧ 94 + 2 = 96 := ⟨by decide +kernel, rfl⟩
theorem dX8_best_96 : decode cX8_best 96 = .ok (.iload 8, 2) ∧ 96 + 2 = 98 := ⟨by decide +kernel, rfl⟩
theorem dX8_best_98 : decode cX8_best 98 = .ok (.ifCond .eq 8, 3) ∧ 98 + 3 = 101 ∧ ((98 : Nat) : Int) + (8) = ((106 : Nat) : Int) := ⟨by decide +kernel, rfl, by decide⟩
theorem dX8_best_101 : decode cX8_best 101 = .ok (.iload 6, 2) ∧ 101 + 2 = 103 := ⟨by decide +kernel, rfl⟩
theorem dX8_best_103 : decode cX8_best 103 = .ok (.goto 5, 3) ∧ ((103 : Nat) : Int) + (5) = ((108 : Nat) : Int) := ⟨by decide +kernel, by decide⟩
theorem dX8_best_106 : decode cX8_best 106 = .ok (.iload 4, 2) ∧ 106 + 2 = 108 := ⟨by decide +kernel, rfl⟩
theorem dX8_best_108 : decode cX8_best 108 = .ok (.istore 4, 2) ∧ 108 + 2 = 110 := ⟨by decide +kernel, rfl⟩
theorem dX8_best_110 : decode cX8_best 110 = .ok (.iload 8, 2) ∧ 110 + 2 = 112 := ⟨by decide +kernel, rfl⟩
theorem dX8_best_112 : decode cX8_best 112 = .ok (.ifCond .eq 8, 3) ∧ 112 + 3 = 115 ∧ ((112 : Nat) : Int) + (8) = ((120 : Nat) : Int) := ⟨by decide +kernel, rfl, by decide⟩
theorem dX8_best_115 : decode cX8_best 115 = .ok (.iload 7, 2) ∧ 115 + 2 = 117 := ⟨by decide +kernel, rfl⟩
theorem dX8_best_117 : decode cX8_best 117 = .ok (.goto 5, 3) ∧ ((117 : Nat) : Int) + (5) = ((122 : Nat) : Int) := ⟨by decide +kernel, by decide⟩
theorem dX8_best_120 : decode cX8_best 120 = .ok (.iload 5, 2) ∧ 120 + 2 = 122 := ⟨by decide +kernel, rfl⟩
theorem dX8_best_122 : decode cX8_best 122 = .ok (.istore 5, 2) ∧ 122 + 2 = 124 := ⟨by decide +kernel, rfl⟩
theorem dX8_best_124 : decode cX8_best 124 = .ok (.iinc 6 1, 3) ∧ 124 + 3 = 127 := ⟨by decide +kernel, rfl⟩
theorem dX8_best_127 : decode cX8_best 127 = .ok (.goto (-84), 3) ∧ ((127 : Nat) : Int) + (-84) = ((43 : Nat) : Int) := ⟨by decide +kernel, by decide⟩
theorem dX8_best_130 : decode cX8_best 130 = .ok (.iload_n 2, 1) ∧ 130 + 1 = 131 := ⟨by decide +kernel, rfl⟩
theorem dX8_best_131 : decode cX8_best 131 = .ok (.ifCond .ne 8, 3) ∧ 131 + 3 = 134 ∧ ((131 : Nat) : Int) + (8) = ((139 : Nat) : Int) := ⟨by decide +kernel, rfl, by decide⟩
theorem dX8_best_134 : decode cX8_best 134 = .ok (.iload 4, 2) ∧ 134 + 2 = 136 := ⟨by decide +kernel, rfl⟩
theorem dX8_best_136 : decode cX8_best 136 = .ok (.goto 5, 3) ∧ ((136 : Nat) : Int) + (5) = ((141 : Nat) : Int) := ⟨by decide +kernel, by decide⟩
theorem dX8_best_139 : decode cX8_best 139 = .ok (.iload 5, 2) ∧ 139 + 2 = 141 := ⟨by decide +kernel, rfl⟩
theorem dX8_best_141 : decode cX8_best 141 = .ok (.ireturn, 1) := by decide +kernel
def B_X8_best_124 (k43 : Hp → Int32 → Int32 → Int32 → Option (Int32 × Hp)) (fu : Nat) (o : Nat) (S : Hp) (x1 : Int32) (x2 : Int32) (x3 : Int32) (x4 : Int32) (x5 : Int32) (x6 : Int32) : Option (Int32 × Hp) :=
  k43 S x4 x5 (x6 + (1 : Int32))
set_option maxRecDepth 100000 in
set_option maxHeartbeats 4000000 in
theorem w_X8_best_124 {E : Cx} {l : Launch} {res : Int32 × Hp} {ad : Nat → Nat} {k43 : Hp → Int32 → Int32 → Int32 → Option (Int32 × Hp)} {fu : Nat} {o : Nat} {S : Hp} {x1 : Int32} {x2 : Int32} {x3 : Int32} {x4 : Int32} {x5 : Int32} {x6 : Int32} (K : Kx E cX8_best RX8 (rmd 6 0 0)) (X : Bx E l yX8_best 9 (some .int) 0 0 ad (QI res)) (hk43 : ∀ (S : Hp) (x4 : Int32) (x5 : Int32) (x6 : Int32), k43 S x4 x5 x6 = some res → J E 0 0 43 [(0, vR (some o)), (1, vI x1), (2, vI x2), (3, vI x3), (4, vI x4), (5, vI x5), (6, vI x6)] [] S ad) (h : B_X8_best_124 k43 fu o S x1 x2 x3 x4 x5 x6 = some res) : J E 0 0 124 [(0, vR (some o)), (1, vI x1), (2, vI x2), (3, vI x3), (4, vI x4), (5, vI x5), (6, vI x6)] [] S ad := by
  refine j_iinc (q := 6) (v := (x6 + (1 : Int32))) (lv' := [(6, vI (x6 + (1 : Int32))), (0, vR (some o)), (1, vI x1), (2, vI x2), (3, vI x3), (4, vI x4), (5, vI x5)]) K dX8_best_124 rfl rfl X.2.2.1 (by decide) rfl ?_
  refine j_goto K dX8_best_127 ?_
  exact j_sub [1, 2, 3, 4, 5, 6, 0] rfl (hk43 _ _ _ _ h)
def B_X8_best_122 (k43 : Hp → Int32 → Int32 → Int32 → Option (Int32 × Hp)) (fu : Nat) (o : Nat) (S : Hp) (x1 : Int32) (x2 : Int32) (x3 : Int32) (x4 : Int32) (x6 : Int32) (s0 : Int32) : Option (Int32 × Hp) :=
  B_X8_best_124 k43 fu o S x1 x2 x3 x4 s0 x6
set_option maxRecDepth 100000 in
set_option maxHeartbeats 4000000 in
theorem w_X8_best_122 {E : Cx} {l : Launch} {res : Int32 × Hp} {ad : Nat → Nat} {k43 : Hp → Int32 → Int32 → Int32 → Option (Int32 × Hp)} {fu : Nat} {o : Nat} {S : Hp} {x1 : Int32} {x2 : Int32} {x3 : Int32} {x4 : Int32} {x6 : Int32} {s0 : Int32} (K : Kx E cX8_best RX8 (rmd 6 0 0)) (X : Bx E l yX8_best 9 (some .int) 0 0 ad (QI res)) (hk43 : ∀ (S : Hp) (x4 : Int32) (x5 : Int32) (x6 : Int32), k43 S x4 x5 x6 = some res → J E 0 0 43 [(0, vR (some o)), (1, vI x1), (2, vI x2), (3, vI x3), (4, vI x4), (5, vI x5), (6, vI x6)] [] S ad) (h : B_X8_best_122 k43 fu o S x1 x2 x3 x4 x6 s0 = some res) : J E 0 0 122 [(0, vR (some o)), (1, vI x1), (2, vI x2), (3, vI x3), (4, vI x4), (6, vI x6)] [vI s0] S ad := by
  refine j_istore (lv' := [(5, vI s0), (0, vR (some o)), (1, vI x1), (2, vI x2), (3, vI x3), (4, vI x4), (6, vI x6)]) K dX8_best_122 X.2.2.1 (by decide) rfl ?_
  exact j_sub [1, 2, 3, 4, 5, 0, 6] rfl (w_X8_best_124 K X hk43 h)
def B_X8_best_108 (k43 : Hp → Int32 → Int32 → Int32 → Option (Int32 × Hp)) (fu : Nat) (o : Nat) (S : Hp) (x1 : Int32) (x2 : Int32) (x3 : Int32) (x5 : Int32) (x6 : Int32) (x7 : Int32) (x8 : Int32) (s0 : Int32) : Option (Int32 × Hp) :=
  if x8 = 0 then
    B_X8_best_122 k43 fu o S x1 x2 x3 s0 x6 x5
  else
    B_X8_best_122 k43 fu o S x1 x2 x3 s0 x6 x7
set_option maxRecDepth 100000 in
set_option maxHeartbeats 4000000 in
theorem w_X8_best_108 {E : Cx} {l : Launch} {res : Int32 × Hp} {ad : Nat → Nat} {k43 : Hp → Int32 → Int32 → Int32 → Option (Int32 × Hp)} {fu : Nat} {o : Nat} {S : Hp} {x1 : Int32} {x2 : Int32} {x3 : Int32} {x5 : Int32} {x6 : Int32} {x7 : Int32} {x8 : Int32} {s0 : Int32} (K : Kx E cX8_best RX8 (rmd 6 0 0)) (X : Bx E l yX8_best 9 (some .int) 0 0 ad (QI res)) (hk43 : ∀ (S : Hp) (x4 : Int32) (x5 : Int32) (x6 : Int32), k43 S x4 x5 x6 = some res → J E 0 0 43 [(0, vR (some o)), (1, vI x1), (2, vI x2), (3, vI x3), (4, vI x4), (5, vI x5), (6, vI x6)] [] S ad) (h : B_X8_best_108 k43 fu o S x1 x2 x3 x5 x6 x7 x8 s0 = some res) : J E 0 0 108 [(0, vR (some o)), (1, vI x1), (2, vI x2), (3, vI x3), (5, vI x5), (6, vI x6), (7, vI x7), (8, vI x8)] [vI s0] S ad := by
  refine j_istore (lv' := [(4, vI s0), (0, vR (some o)), (1, vI x1), (2, vI x2), (3, vI x3), (5, vI x5), (6, vI x6), (7, vI x7), (8, vI x8)]) K dX8_best_108 X.2.2.1 (by decide) rfl ?_
  refine j_iload K dX8_best_110 8 rfl ?_
  refine j_if_eq K dX8_best_112 (fun c112 => ?_) (fun c112 => ?_)
  · replace h := it c112 h
    refine j_iload K dX8_best_120 5 rfl ?_
    exact j_sub [1, 2, 3, 4, 0, 6] rfl (w_X8_best_122 K X hk43 h)
  · replace h := ie c112 h
    refine j_iload K dX8_best_115 7 rfl ?_
    refine j_goto K dX8_best_117 ?_
    exact j_sub [1, 2, 3, 4, 0, 6] rfl (w_X8_best_122 K X hk43 h)
def B_X8_best_94 (k43 : Hp → Int32 → Int32 → Int32 → Option (Int32 × Hp)) (fu : Nat) (o : Nat) (S : Hp) (x1 : Int32) (x2 : Int32) (x3 : Int32) (x4 : Int32) (x5 : Int32) (x6 : Int32) (x7 : Int32) (s0 : Int32) : Option (Int32 × Hp) :=
  if s0 = 0 then
    B_X8_best_108 k43 fu o S x1 x2 x3 x5 x6 x7 s0 x4
  else
    B_X8_best_108 k43 fu o S x1 x2 x3 x5 x6 x7 s0 x6
set_option maxRecDepth 100000 in
set_option maxHeartbeats 4000000 in
theorem w_X8_best_94 {E : Cx} {l : Launch} {res : Int32 × Hp} {ad : Nat → Nat} {k43 : Hp → Int32 → Int32 → Int32 → Option (Int32 × Hp)} {fu : Nat} {o : Nat} {S : Hp} {x1 : Int32} {x2 : Int32} {x3 : Int32} {x4 : Int32} {x5 : Int32} {x6 : Int32} {x7 : Int32} {s0 : Int32} (K : Kx E cX8_best RX8 (rmd 6 0 0)) (X : Bx E l yX8_best 9 (some .int) 0 0 ad (QI res)) (hk43 : ∀ (S : Hp) (x4 : Int32) (x5 : Int32) (x6 : Int32), k43 S x4 x5 x6 = some res → J E 0 0 43 [(0, vR (some o)), (1, vI x1), (2, vI x2), (3, vI x3), (4, vI x4), (5, vI x5), (6, vI x6)] [] S ad) (h : B_X8_best_94 k43 fu o S x1 x2 x3 x4 x5 x6 x7 s0 = some res) : J E 0 0 94 [(0, vR (some o)), (1, vI x1), (2, vI x2), (3, vI x3), (4, vI x4), (5, vI x5), (6, vI x6), (7, vI x7)] [vI s0] S ad := by
  refine j_istore (lv' := [(8, vI s0), (0, vR (some o)), (1, vI x1), (2, vI x2), (3, vI x3), (4, vI x4), (5, vI x5), (6, vI x6), (7, vI x7)]) K dX8_best_94 X.2.2.1 (by decide) rfl ?_
  refine j_iload K dX8_best_96 0 rfl ?_
  refine j_if_eq K dX8_best_98 (fun c98 => ?_) (fun c98 => ?_)
  · replace h := it c98 h
    refine j_iload K dX8_best_106 5 rfl ?_
    exact j_sub [1, 2, 3, 4, 6, 7, 8, 0] rfl (w_X8_best_108 K X hk43 h)
  · replace h := ie c98 h
    refine j_iload K dX8_best_101 7 rfl ?_
    refine j_goto K dX8_best_103 ?_
    exact j_sub [1, 2, 3, 4, 6, 7, 8, 0] rfl (w_X8_best_108 K X hk43 h)
def B_X8_best_89 (k43 : Hp → Int32 → Int32 → Int32 → Option (Int32 × Hp)) (fu : Nat) (o : Nat) (S : Hp) (x1 : Int32) (x2 : Int32) (x3 : Int32) (x4 : Int32) (x5 : Int32) (x6 : Int32) (x7 : Int32) : Option (Int32 × Hp) :=
  B_X8_best_94 k43 fu o S x1 x2 x3 x4 x5 x6 x7 (1 : Int32)
set_option maxRecDepth 100000 in
set_option maxHeartbeats 4000000 in
theorem w_X8_best_89 {E : Cx} {l : Launch} {res : Int32 × Hp} {ad : Nat → Nat} {k43 : Hp → Int32 → Int32 → Int32 → Option (Int32 × Hp)} {fu : Nat} {o : Nat} {S : Hp} {x1 : Int32} {x2 : Int32} {x3 : Int32} {x4 : Int32} {x5 : Int32} {x6 : Int32} {x7 : Int32} (K : Kx E cX8_best RX8 (rmd 6 0 0)) (X : Bx E l yX8_best 9 (some .int) 0 0 ad (QI res)) (hk43 : ∀ (S : Hp) (x4 : Int32) (x5 : Int32) (x6 : Int32), k43 S x4 x5 x6 = some res → J E 0 0 43 [(0, vR (some o)), (1, vI x1), (2, vI x2), (3, vI x3), (4, vI x4), (5, vI x5), (6, vI x6)] [] S ad) (h : B_X8_best_89 k43 fu o S x1 x2 x3 x4 x5 x6 x7 = some res) : J E 0 0 89 [(0, vR (some o)), (1, vI x1), (2, vI x2), (3, vI x3), (4, vI x4), (5, vI x5), (6, vI x6), (7, vI x7)] [] S ad := by
  refine j_iconst (v := (1 : Int32)) K dX8_best_89 (by decide) ?_
  refine j_goto K dX8_best_90 ?_
  exact w_X8_best_94 K X hk43 h
def B_X8_best_141 (fu : Nat) (o : Nat) (S : Hp) (s0 : Int32) : Option (Int32 × Hp) :=
  some (s0, S)
set_option maxRecDepth 100000 in
set_option maxHeartbeats 4000000 in
theorem w_X8_best_141 {E : Cx} {l : Launch} {res : Int32 × Hp} {ad : Nat → Nat} {fu : Nat} {o : Nat} {S : Hp} {s0 : Int32} (K : Kx E cX8_best RX8 (rmd 6 0 0)) (X : Bx E l yX8_best 9 (some .int) 0 0 ad (QI res)) (h : B_X8_best_141 fu o S s0 = some res) : J E 0 0 141 [] [vI s0] S ad := by
  exact j_iret K X dX8_best_141 h
def L_X8_best_43 (k43 : Hp → Int32 → Int32 → Int32 → Option (Int32 × Hp)) (fu : Nat) (o : Nat) (x1 : Int32) (x2 : Int32) (x3 : Int32) (S : Hp) (x4 : Int32) (x5 : Int32) (x6 : Int32) : Option (Int32 × Hp) :=
  (gI S (some o) 6 7).bind fun v47 =>
  if ((1 : Int32) <<< (v47 &&& 31)) ≤ x6 then
    if x2 = 0 then
      B_X8_best_141 fu o S x4
    else
      B_X8_best_141 fu o S x5
  else
    if (x6 &&& (x3 ^^^ (-1 : Int32))) = 0 then
      (ob S 6 (some o)).bind fun _ =>
      b2 (F_X8_beatsBy fu S o x6) fun v68 S68 =>
      (ob S68 6 (some o)).bind fun _ =>
      b2 (F_X8_thoughtOf fu S68 o x1 v68) fun v71 S71 =>
      if x4 = (-1 : Int32) then
        B_X8_best_89 k43 fu o S71 x1 x2 x3 x4 x5 x6 v71
      else
        if v71 ≤ x5 then
          B_X8_best_94 k43 fu o S71 x1 x2 x3 x4 x5 x6 v71 (0 : Int32)
        else
          B_X8_best_89 k43 fu o S71 x1 x2 x3 x4 x5 x6 v71
    else
      B_X8_best_124 k43 fu o S x1 x2 x3 x4 x5 x6
set_option maxRecDepth 100000 in
set_option maxHeartbeats 4000000 in
theorem wl_X8_best_43 {E : Cx} {l : Launch} {res : Int32 × Hp} {ad : Nat → Nat} {k43 : Hp → Int32 → Int32 → Int32 → Option (Int32 × Hp)} {fu : Nat} {o : Nat} {S : Hp} {x1 : Int32} {x2 : Int32} {x3 : Int32} {x4 : Int32} {x5 : Int32} {x6 : Int32} (K : Kx E cX8_best RX8 (rmd 6 0 0)) (X : Bx E l yX8_best 9 (some .int) 0 0 ad (QI res)) (hk43 : ∀ (S : Hp) (x4 : Int32) (x5 : Int32) (x6 : Int32), k43 S x4 x5 x6 = some res → J E 0 0 43 [(0, vR (some o)), (1, vI x1), (2, vI x2), (3, vI x3), (4, vI x4), (5, vI x5), (6, vI x6)] [] S ad) (h : L_X8_best_43 k43 fu o x1 x2 x3 S x4 x5 x6 = some res) : J E 0 0 43 [(0, vR (some o)), (1, vI x1), (2, vI x2), (3, vI x3), (4, vI x4), (5, vI x5), (6, vI x6)] [] S ad := by
  refine j_iload K dX8_best_43 6 rfl ?_
  refine j_iconst (v := (1 : Int32)) K dX8_best_45 (by decide) ?_
  refine j_aload_n K dX8_best_46 rfl 0 rfl ?_
  obtain ⟨v47, e47, h⟩ := bd h
  refine fgX8_91 K dX8_best_47 e47 ?_
  refine j_ishl K dX8_best_50 ?_
  refine j_icmp_ge K dX8_best_51 (fun c51 => ?_) (fun c51 => ?_)
  · replace h := it c51 h
    refine j_iload_n K dX8_best_130 rfl 2 rfl ?_
    refine j_if_ne K dX8_best_131 (fun c131 => ?_) (fun c131 => ?_)
    · replace h := ie c131 h
      refine j_iload K dX8_best_139 5 rfl ?_
      exact j_sub [] rfl (w_X8_best_141 K X h)
    · replace h := it c131 h
      refine j_iload K dX8_best_134 4 rfl ?_
      refine j_goto K dX8_best_136 ?_
      exact j_sub [] rfl (w_X8_best_141 K X h)
  · replace h := ie c51 h
    refine j_iload K dX8_best_54 6 rfl ?_
    refine j_iload_n K dX8_best_56 rfl 3 rfl ?_
    refine j_iconst (v := (-1 : Int32)) K dX8_best_57 (by decide) ?_
    refine j_ixor K dX8_best_58 ?_
    refine j_iand K dX8_best_59 ?_
    refine j_if_ne K dX8_best_60 (fun c60 => ?_) (fun c60 => ?_)
    · replace h := ie c60 h
      exact w_X8_best_124 K X hk43 h
    · replace h := it c60 h
      refine j_aload_n K dX8_best_63 rfl 0 rfl ?_
      refine j_iload_n K dX8_best_64 rfl 1 rfl ?_
      refine j_aload_n K dX8_best_65 rfl 0 rfl ?_
      refine j_iload K dX8_best_66 6 rfl ?_
      obtain ⟨w68, ew68, h⟩ := bd h
      have ho68 := obS ew68
      obtain ⟨v68, S68, e68, h⟩ := bd2 h
      refine j_cI (st := [vI x1, vR (some o)]) K (r_V (vs := [vI x6]) (n := 1) (o := o) K (c_X8_beatsBy e68) ho68 (by decide) rfl dX8_best_68 z1108 z1110 zs52 z13 z1111 ⟨zd_X8_beatsBy, rfl, rfl, rfl, ⟨Nat.le_of_ble_eq_true rfl, Nat.le_of_ble_eq_true rfl⟩, Nat.le_of_ble_eq_true rfl, Nat.le_of_ble_eq_true rfl, Nat.le_of_ble_eq_true rfl⟩) rfl ?_
      obtain ⟨w71, ew71, h⟩ := bd h
      have ho71 := obS ew71
      obtain ⟨v71, S71, e71, h⟩ := bd2 h
      refine j_cI (st := []) K (r_V (vs := [vI x1, vI v68]) (n := 2) (o := o) K (c_X8_thoughtOf e71) ho71 (by decide) rfl dX8_best_71 z1080 z1082 zs48 z13 z1083 ⟨zd_X8_thoughtOf, rfl, rfl, rfl, ⟨Nat.le_of_ble_eq_true rfl, Nat.le_of_ble_eq_true rfl⟩, Nat.le_of_ble_eq_true rfl, Nat.le_of_ble_eq_true rfl, Nat.le_of_ble_eq_true rfl⟩) rfl ?_
      refine j_istore (lv' := [(7, vI v71), (0, vR (some o)), (1, vI x1), (2, vI x2), (3, vI x3), (4, vI x4), (5, vI x5), (6, vI x6)]) K dX8_best_74 X.2.2.1 (by decide) rfl ?_
      refine j_iload K dX8_best_76 5 rfl ?_
      refine j_iconst (v := (-1 : Int32)) K dX8_best_78 (by decide) ?_
      refine j_icmp_eq K dX8_best_79 (fun c79 => ?_) (fun c79 => ?_)
      · replace h := it c79 h
        exact j_sub [1, 2, 3, 4, 5, 6, 7, 0] rfl (w_X8_best_89 K X hk43 h)
      · replace h := ie c79 h
        refine j_iload K dX8_best_82 0 rfl ?_
        refine j_iload K dX8_best_84 6 rfl ?_
        refine j_icmp_le K dX8_best_86 (fun c86 => ?_) (fun c86 => ?_)
        · replace h := it c86 h
          refine j_iconst (v := (0 : Int32)) K dX8_best_93 (by decide) ?_
          exact j_sub [1, 2, 3, 4, 5, 6, 7, 0] rfl (w_X8_best_94 K X hk43 h)
        · replace h := ie c86 h
          exact j_sub [1, 2, 3, 4, 5, 6, 7, 0] rfl (w_X8_best_89 K X hk43 h)
def B_X8_best_43 (fu : Nat) (o : Nat) (x1 : Int32) (x2 : Int32) (x3 : Int32) : Nat → Hp → Int32 → Int32 → Int32 → Option (Int32 × Hp)
  | 0 => fun _ _ _ _ => none
  | n + 1 => L_X8_best_43 (B_X8_best_43 fu o x1 x2 x3 n) fu o x1 x2 x3
theorem w_X8_best_43 {E : Cx} {l : Launch} {res : Int32 × Hp} {ad : Nat → Nat} {fu : Nat} {o : Nat} {x1 : Int32} {x2 : Int32} {x3 : Int32} (K : Kx E cX8_best RX8 (rmd 6 0 0)) (X : Bx E l yX8_best 9 (some .int) 0 0 ad (QI res)) : ∀ (n : Nat) (S : Hp) (x4 : Int32) (x5 : Int32) (x6 : Int32), B_X8_best_43 fu o x1 x2 x3 n S x4 x5 x6 = some res → J E 0 0 43 [(0, vR (some o)), (1, vI x1), (2, vI x2), (3, vI x3), (4, vI x4), (5, vI x5), (6, vI x6)] [] S ad := by
  intro n
  induction n with
  | zero =>
    intro S x4 x5 x6 h
    cases h
  | succ n ih =>
    intro S x4 x5 x6 h
    exact wl_X8_best_43 K X ih h
def F_X8_best (fu : Nat) (S : Hp) (o : Nat) (x1 : Int32) (x2 : Int32) : Option (Int32 × Hp) :=
  (ob S 6 (some o)).bind fun _ =>
  b2 (F_X8_isOne S o x1) fun v2 S2 =>
  if v2 = 0 then
    some ((-5 : Int32), S2)
  else
    b2 (F_X8_in S2 x2 (0 : Int32) (1 : Int32)) fun v14 S14 =>
    if v14 = 0 then
      some ((-7 : Int32), S14)
    else
      (ob S14 6 (some o)).bind fun _ =>
      (F_X8_tellsStrokes fu S14 o x1).bind fun S25 =>
      (ob S25 6 (some o)).bind fun _ =>
      b2 (F_X8_ownSet fu S25 o x1) fun v30 S30 =>
      B_X8_best_43 fu o x1 x2 v30 fu S30 (-1 : Int32) (0 : Int32) (0 : Int32)
set_option maxRecDepth 100000 in
set_option maxHeartbeats 4000000 in
theorem w_X8_best {E : Cx} {l : Launch} {res : Int32 × Hp} {ad : Nat → Nat} {fu : Nat} {S : Hp} {o : Nat} {x1 : Int32} {x2 : Int32} (K : Kx E cX8_best RX8 (rmd 6 0 0)) (X : Bx E l yX8_best 9 (some .int) 0 0 ad (QI res)) (h : F_X8_best fu S o x1 x2 = some res) : J E 0 0 0 [(0, vR (some o)), (1, vI x1), (2, vI x2)] [] S ad := by
  refine j_aload_n K dX8_best_0 rfl 0 rfl ?_
  refine j_iload_n K dX8_best_1 rfl 1 rfl ?_
  obtain ⟨w2, ew2, h⟩ := bd h
  have ho2 := obS ew2
  obtain ⟨v2, S2, e2, h⟩ := bd2 h
  refine j_cI (st := []) K (r_V (vs := [vI x1]) (n := 1) (o := o) K (c_X8_isOne e2) ho2 (by decide) rfl dX8_best_2 z1003 z1005 zs35 z13 z1006 ⟨zd_X8_isOne, rfl, rfl, rfl, ⟨Nat.le_of_ble_eq_true rfl, Nat.le_of_ble_eq_true rfl⟩, Nat.le_of_ble_eq_true rfl, Nat.le_of_ble_eq_true rfl, Nat.le_of_ble_eq_true rfl⟩) rfl ?_
  refine j_if_ne K dX8_best_5 (fun c5 => ?_) (fun c5 => ?_)
  · replace h := ie c5 h
    refine j_iload_n K dX8_best_11 rfl 2 rfl ?_
    refine j_iconst (v := (0 : Int32)) K dX8_best_12 (by decide) ?_
    refine j_iconst (v := (1 : Int32)) K dX8_best_13 (by decide) ?_
    obtain ⟨v14, S14, e14, h⟩ := bd2 h
    refine j_cI (st := []) K (r_S (vs := [vI x2, vI (0 : Int32), vI (1 : Int32)]) (n := 3) K (c_X8_in e14) dX8_best_14 z812 z813 z13 z814 ⟨zd_X8_in, rfl, rfl, rfl, ⟨Nat.le_of_ble_eq_true rfl, Nat.le_of_ble_eq_true rfl⟩, Nat.le_of_ble_eq_true rfl, Nat.le_of_ble_eq_true rfl, Nat.le_of_ble_eq_true rfl⟩) rfl ?_
    refine j_if_ne K dX8_best_17 (fun c17 => ?_) (fun c17 => ?_)
    · replace h := ie c17 h
      refine j_aload_n K dX8_best_23 rfl 0 rfl ?_
      refine j_iload_n K dX8_best_24 rfl 1 rfl ?_
      obtain ⟨w25, ew25, h⟩ := bd h
      have ho25 := obS ew25
      obtain ⟨S25, e25, h⟩ := bd h
      refine j_cV (st := []) K (r_V (vs := [vI x1]) (n := 1) (o := o) K (c_X8_tellsStrokes e25) ho25 (by decide) rfl dX8_best_25 z1100 z1102 zs50 z13 z1103 ⟨zd_X8_tellsStrokes, rfl, rfl, rfl, ⟨Nat.le_of_ble_eq_true rfl, Nat.le_of_ble_eq_true rfl⟩, Nat.le_of_ble_eq_true rfl, Nat.le_of_ble_eq_true rfl, Nat.le_of_ble_eq_true rfl⟩) rfl ?_
      refine j_aload_n K dX8_best_28 rfl 0 rfl ?_
      refine j_iload_n K dX8_best_29 rfl 1 rfl ?_
      obtain ⟨w30, ew30, h⟩ := bd h
      have ho30 := obS ew30
      obtain ⟨v30, S30, e30, h⟩ := bd2 h
      refine j_cI (st := []) K (r_V (vs := [vI x1]) (n := 1) (o := o) K (c_X8_ownSet e30) ho30 (by decide) rfl dX8_best_30 z1104 z1106 zs51 z13 z1107 ⟨zd_X8_ownSet, rfl, rfl, rfl, ⟨Nat.le_of_ble_eq_true rfl, Nat.le_of_ble_eq_true rfl⟩, Nat.le_of_ble_eq_true rfl, Nat.le_of_ble_eq_true rfl, Nat.le_of_ble_eq_true rfl⟩) rfl ?_
      refine j_istore_n (lv' := [(3, vI v30), (0, vR (some o)), (1, vI x1), (2, vI x2)]) K dX8_best_33 rfl X.2.2.1 (by decide) rfl ?_
      refine j_iconst (v := (-1 : Int32)) K dX8_best_34 (by decide) ?_
      refine j_istore (lv' := [(4, vI (-1 : Int32)), (3, vI v30), (0, vR (some o)), (1, vI x1), (2, vI x2)]) K dX8_best_35 X.2.2.1 (by decide) rfl ?_
      refine j_iconst (v := (0 : Int32)) K dX8_best_37 (by decide) ?_
      refine j_istore (lv' := [(5, vI (0 : Int32)), (4, vI (-1 : Int32)), (3, vI v30), (0, vR (some o)), (1, vI x1), (2, vI x2)]) K dX8_best_38 X.2.2.1 (by decide) rfl ?_
      refine j_iconst (v := (0 : Int32)) K dX8_best_40 (by decide) ?_
      refine j_istore (lv' := [(6, vI (0 : Int32)), (5, vI (0 : Int32)), (4, vI (-1 : Int32)), (3, vI v30), (0, vR (some o)), (1, vI x1), (2, vI x2)]) K dX8_best_41 X.2.2.1 (by decide) rfl ?_
      exact j_sub [4, 5, 6, 3, 2, 1, 0] rfl (w_X8_best_43 K X _ _ _ _ _ h)
    · replace h := it c17 h
      refine j_bipush (v := (-7 : Int32)) K dX8_best_20 (by decide) ?_
      exact j_iret K X dX8_best_22 h
  · replace h := it c5 h
    refine j_bipush (v := (-5 : Int32)) K dX8_best_8 (by decide) ?_
    exact j_iret K X dX8_best_10 h
theorem c_X8_best {l : Launch} {fu : Nat} {S : Hp} {o : Nat} {x1 : Int32} {x2 : Int32} {res : Int32 × Hp} (h : F_X8_best fu S o x1 x2 = some res) : Ct l yX8_best cX8_best 9 (some .int) (rmd 6 0 0) 0 0 [vR (some o), vI x1, vI x2] S (QI res) :=
  z_entry (by decide +kernel) (Nat.le_of_ble_eq_true rfl) (fun E ad K X => w_X8_best K X h)

theorem dX8_few_0 : decode cX8_few 0 = .ok (.aload_n 0, 1) ∧ 0 + 1 = 1 := ⟨by decide +kernel, rfl⟩
theorem dX8_few_1 : decode cX8_few 1 = .ok (.iload_n 1, 1) ∧ 1 + 1 = 2 := ⟨by decide +kernel, rfl⟩
theorem dX8_few_2 : decode cX8_few 2 = .ok (.invokevirtual 182, 3) := by decide +kernel
theorem dX8_few_5 : decode cX8_few 5 = .ok (.ifCond .ne 6, 3) ∧ 5 + 3 = 8 ∧ ((5 : Nat) : Int) + (6) = ((11 : Nat) : Int) := ⟨by decide +kernel, rfl, by decide⟩
theorem dX8_few_8 : decode cX8_few 8 = .ok (.bipush (-5), 2) ∧ 8 + 2 = 10 := ⟨by decide +kernel, rfl⟩
theorem dX8_few_10 : decode cX8_few 10 = .ok (.ireturn, 1) := by decide +kernel
theorem dX8_few_11 : decode cX8_few 11 = .ok (.iconst 0, 1) ∧ 11 + 1 = 12 := ⟨by decide +kernel, rfl⟩
theorem dX8_few_12 : decode cX8_few 12 = .ok (.istore_n 2, 1) ∧ 12 + 1 = 13 := ⟨by decide +kernel, rfl⟩
theorem dX8_few_13 : decode cX8_few 13 = .ok (.iconst 0, 1) ∧ 13 + 1 = 14 := ⟨by decide +kernel, rfl⟩
theorem dX8_few_14 : decode cX8_few 14 = .ok (.istore_n 3, 1) ∧ 14 + 1 = 15 := ⟨by decide +kernel, rfl⟩
theorem dX8_few_15 : decode cX8_few 15 = .ok (.iload_n 3, 1) ∧ 15 + 1 = 16 := ⟨by decide +kernel, rfl⟩
theorem dX8_few_16 : decode cX8_few 16 = .ok (.aload_n 0, 1) ∧ 16 + 1 = 17 := ⟨by decide +kernel, rfl⟩
theorem dX8_few_17 : decode cX8_few 17 = .ok (.getfield 84, 3) ∧ 17 + 3 = 20 := ⟨by decide +kernel, rfl⟩
theorem dX8_few_20 : decode cX8_few 20 = .ok (.if_icmp .ge 39, 3) ∧ 20 + 3 = 23 ∧ ((20 : Nat) : Int) + (39) = ((59 : Nat) : Int) := ⟨by decide +kernel, rfl, by decide⟩
theorem dX8_few_23 : decode cX8_few 23 = .ok (.iload_n 3, 1) ∧ 23 + 1 = 24 := ⟨by decide +kernel, rfl⟩
theorem dX8_few_24 : decode cX8_few 24 = .ok (.iload_n 1, 1) ∧ 24 + 1 = 25 := ⟨by decide +kernel, rfl⟩
theorem dX8_few_25 : decode cX8_few 25 = .ok (.if_icmp .ne 7, 3) ∧ 25 + 3 = 28 ∧ ((25 : Nat) : Int) + (7) = ((32 : Nat) : Int) := ⟨by decide +kernel, rfl, by decide⟩
theorem dX8_few_28 : decode cX8_few 28 = .ok (.iconst 0, 1) ∧ 28 + 1 = 29 := ⟨by decide +kernel, rfl⟩
theorem dX8_few_29 : decode cX8_few 29 = .ok (.goto 9, 3) ∧ ((29 : Nat) : Int) + (9) = ((38 : Nat) : Int) := ⟨by decide +kernel, by decide⟩
theorem dX8_few_32 : decode cX8_few 32 = .ok (.aload_n 0, 1) ∧ 32 + 1 = 33 := ⟨by decide +kernel, rfl⟩
theorem dX8_few_33 : decode cX8_few 33 = .ok (.iload_n 3, 1) ∧ 33 + 1 = 34 := ⟨by decide +kernel, rfl⟩
theorem dX8_few_34 : decode cX8_few 34 = .ok (.iload_n 1, 1) ∧ 34 + 1 = 35 := ⟨by decide +kernel, rfl⟩
theorem dX8_few_35 : decode cX8_few 35 = .ok (.invokevirtual 202, 3) := by decide +kernel
theorem dX8_few_38 : decode cX8_few 38 = .ok (.istore 4, 2) ∧ 38 + 2 = 40 := ⟨by decide +kernel, rfl⟩
theorem dX8_few_40 : decode cX8_few 40 = .ok (.iload 4, 2) ∧ 40 + 2 = 42 := ⟨by decide +kernel, rfl⟩
theorem dX8_few_42 : decode cX8_few 42 = .ok (.iload_n 2, 1) ∧ 42 + 1 = 43 := ⟨by decide +kernel, rfl⟩
theorem dX8_few_43 : decode cX8_few 43 = .ok (.if_icmp .le 8, 3) ∧ 43 + 3 = 46 ∧ ((43 : Nat) : Int) + (8) = ((51 : Nat) : Int) := ⟨by decide +kernel, rfl, by decide⟩
theorem dX8_few_46 : decode cX8_few 46 = .ok (.iload 4, 2) ∧ 46 + 2 = 48 := ⟨by decide +kernel, rfl⟩
theorem dX8_few_48 : decode cX8_few 48 = .ok (.goto 4, 3) ∧ ((48 : Nat) : Int) + (4) = ((52 : Nat) : Int) := ⟨by decide +kernel, by decide⟩
theorem dX8_few_51 : decode cX8_few 51 = .ok (.iload_n 2, 1) ∧ 51 + 1 = 52 := ⟨by decide +kernel, rfl⟩
theorem dX8_few_52 : decode cX8_few 52 = .ok (.istore_n 2, 1) ∧ 52 + 1 = 53 := ⟨by decide +kernel, rfl⟩
theorem dX8_few_53 : decode cX8_few 53 = .ok (.iinc 3 1, 3) ∧ 53 + 3 = 56 := ⟨by decide +kernel, rfl⟩
theorem dX8_few_56 : decode cX8_few 56 = .ok (.goto (-41), 3) ∧ ((56 : Nat) : Int) + (-41) = ((15 : Nat) : Int) := ⟨by decide +kernel, by decide⟩
theorem dX8_few_59 : decode cX8_few 59 = .ok (.iload_n 2, 1) ∧ 59 + 1 = 60 := ⟨by decide +kernel, rfl⟩
theorem dX8_few_60 : decode cX8_few 60 = .ok (.ireturn, 1) := by decide +kernel
def B_X8_few_52 (k15 : Hp → Int32 → Int32 → Option (Int32 × Hp)) (fu : Nat) (o : Nat) (S : Hp) (x1 : Int32) (x3 : Int32) (s0 : Int32) : Option (Int32 × Hp) :=
  k15 S s0 (x3 + (1 : Int32))
set_option maxRecDepth 100000 in
set_option maxHeartbeats 4000000 in
theorem w_X8_few_52 {E : Cx} {l : Launch} {res : Int32 × Hp} {ad : Nat → Nat} {k15 : Hp → Int32 → Int32 → Option (Int32 × Hp)} {fu : Nat} {o : Nat} {S : Hp} {x1 : Int32} {x3 : Int32} {s0 : Int32} (K : Kx E cX8_few RX8 (rmd 2 0 0)) (X : Bx E l yX8_few 5 (some .int) 0 0 ad (QI res)) (hk15 : ∀ (S : Hp) (x2 : Int32) (x3 : Int32), k15 S x2 x3 = some res → J E 0 0 15 [(0, vR (some o)), (1, vI x1), (2, vI x2), (3, vI x3)] [] S ad) (h : B_X8_few_52 k15 fu o S x1 x3 s0 = some res) : J E 0 0 52 [(0, vR (some o)), (1, vI x1), (3, vI x3)] [vI s0] S ad := by
  refine j_istore_n (lv' := [(2, vI s0), (0, vR (some o)), (1, vI x1), (3, vI x3)]) K dX8_few_52 rfl X.2.2.1 (by decide) rfl ?_
  refine j_iinc (q := 3) (v := (x3 + (1 : Int32))) (lv' := [(3, vI (x3 + (1 : Int32))), (2, vI s0), (0, vR (some o)), (1, vI x1)]) K dX8_few_53 rfl rfl X.2.2.1 (by decide) rfl ?_
  refine j_goto K dX8_few_56 ?_
  exact j_sub [2, 3, 1, 0] rfl (hk15 _ _ _ h)
def B_X8_few_38 (k15 : Hp → Int32 → Int32 → Option (Int32 × Hp)) (fu : Nat) (o : Nat) (S : Hp) (x1 : Int32) (x2 : Int32) (x3 : Int32) (s0 : Int32) : Option (Int32 × Hp) :=
  if s0 ≤ x2 then
    B_X8_few_52 k15 fu o S x1 x3 x2
  else
    B_X8_few_52 k15 fu o S x1 x3 s0
set_option maxRecDepth 100000 in
set_option maxHeartbeats 4000000 in
theorem w_X8_few_38 {E : Cx} {l : Launch} {res : Int32 × Hp} {ad : Nat → Nat} {k15 : Hp → Int32 → Int32 → Option (Int32 × Hp)} {fu : Nat} {o : Nat} {S : Hp} {x1 : Int32} {x2 : Int32} {x3 : Int32} {s0 : Int32} (K : Kx E cX8_few RX8 (rmd 2 0 0)) (X : Bx E l yX8_few 5 (some .int) 0 0 ad (QI res)) (hk15 : ∀ (S : Hp) (x2 : Int32) (x3 : Int32), k15 S x2 x3 = some res → J E 0 0 15 [(0, vR (some o)), (1, vI x1), (2, vI x2), (3, vI x3)] [] S ad) (h : B_X8_few_38 k15 fu o S x1 x2 x3 s0 = some res) : J E 0 0 38 [(0, vR (some o)), (1, vI x1), (2, vI x2), (3, vI x3)] [vI s0] S ad := by
  refine j_istore (lv' := [(4, vI s0), (0, vR (some o)), (1, vI x1), (2, vI x2), (3, vI x3)]) K dX8_few_38 X.2.2.1 (by decide) rfl ?_
  refine j_iload K dX8_few_40 0 rfl ?_
  refine j_iload_n K dX8_few_42 rfl 3 rfl ?_
  refine j_icmp_le K dX8_few_43 (fun c43 => ?_) (fun c43 => ?_)
  · replace h := it c43 h
    refine j_iload_n K dX8_few_51 rfl 3 rfl ?_
    exact j_sub [1, 2, 4] rfl (w_X8_few_52 K X hk15 h)
  · replace h := ie c43 h
    refine j_iload K dX8_few_46 0 rfl ?_
    refine j_goto K dX8_few_48 ?_
    exact j_sub [1, 2, 4] rfl (w_X8_few_52 K X hk15 h)
def L_X8_few_15 (k15 : Hp → Int32 → Int32 → Option (Int32 × Hp)) (fu : Nat) (o : Nat) (x1 : Int32) (S : Hp) (x2 : Int32) (x3 : Int32) : Option (Int32 × Hp) :=
  (gI S (some o) 6 0).bind fun v17 =>
  if v17 ≤ x3 then
    some (x2, S)
  else
    if x3 = x1 then
      B_X8_few_38 k15 fu o S x1 x2 x3 (0 : Int32)
    else
      (ob S 6 (some o)).bind fun _ =>
      b2 (F_X8_sawOf fu S o x3 x1) fun v35 S35 =>
      B_X8_few_38 k15 fu o S35 x1 x2 x3 v35
set_option maxRecDepth 100000 in
set_option maxHeartbeats 4000000 in
theorem wl_X8_few_15 {E : Cx} {l : Launch} {res : Int32 × Hp} {ad : Nat → Nat} {k15 : Hp → Int32 → Int32 → Option (Int32 × Hp)} {fu : Nat} {o : Nat} {S : Hp} {x1 : Int32} {x2 : Int32} {x3 : Int32} (K : Kx E cX8_few RX8 (rmd 2 0 0)) (X : Bx E l yX8_few 5 (some .int) 0 0 ad (QI res)) (hk15 : ∀ (S : Hp) (x2 : Int32) (x3 : Int32), k15 S x2 x3 = some res → J E 0 0 15 [(0, vR (some o)), (1, vI x1), (2, vI x2), (3, vI x3)] [] S ad) (h : L_X8_few_15 k15 fu o x1 S x2 x3 = some res) : J E 0 0 15 [(0, vR (some o)), (1, vI x1), (2, vI x2), (3, vI x3)] [] S ad := by
  refine j_iload_n K dX8_few_15 rfl 3 rfl ?_
  refine j_aload_n K dX8_few_16 rfl 0 rfl ?_
  obtain ⟨v17, e17, h⟩ := bd h
  refine fgX8_84 K dX8_few_17 e17 ?_
  refine j_icmp_ge K dX8_few_20 (fun c20 => ?_) (fun c20 => ?_)
  · replace h := it c20 h
    refine j_iload_n K dX8_few_59 rfl 2 rfl ?_
    exact j_iret K X dX8_few_60 h
  · replace h := ie c20 h
    refine j_iload_n K dX8_few_23 rfl 3 rfl ?_
    refine j_iload_n K dX8_few_24 rfl 1 rfl ?_
    refine j_icmp_ne K dX8_few_25 (fun c25 => ?_) (fun c25 => ?_)
    · replace h := ie c25 h
      refine j_aload_n K dX8_few_32 rfl 0 rfl ?_
      refine j_iload_n K dX8_few_33 rfl 3 rfl ?_
      refine j_iload_n K dX8_few_34 rfl 1 rfl ?_
      obtain ⟨w35, ew35, h⟩ := bd h
      have ho35 := obS ew35
      obtain ⟨v35, S35, e35, h⟩ := bd2 h
      refine j_cI (st := []) K (r_V (vs := [vI x3, vI x1]) (n := 2) (o := o) K (c_X8_sawOf e35) ho35 (by decide) rfl dX8_few_35 z1064 z1066 zs44 z13 z1067 ⟨zd_X8_sawOf, rfl, rfl, rfl, ⟨Nat.le_of_ble_eq_true rfl, Nat.le_of_ble_eq_true rfl⟩, Nat.le_of_ble_eq_true rfl, Nat.le_of_ble_eq_true rfl, Nat.le_of_ble_eq_true rfl⟩) rfl ?_
      exact w_X8_few_38 K X hk15 h
    · replace h := it c25 h
      refine j_iconst (v := (0 : Int32)) K dX8_few_28 (by decide) ?_
      refine j_goto K dX8_few_29 ?_
      exact w_X8_few_38 K X hk15 h
def B_X8_few_15 (fu : Nat) (o : Nat) (x1 : Int32) : Nat → Hp → Int32 → Int32 → Option (Int32 × Hp)
  | 0 => fun _ _ _ => none
  | n + 1 => L_X8_few_15 (B_X8_few_15 fu o x1 n) fu o x1
theorem w_X8_few_15 {E : Cx} {l : Launch} {res : Int32 × Hp} {ad : Nat → Nat} {fu : Nat} {o : Nat} {x1 : Int32} (K : Kx E cX8_few RX8 (rmd 2 0 0)) (X : Bx E l yX8_few 5 (some .int) 0 0 ad (QI res)) : ∀ (n : Nat) (S : Hp) (x2 : Int32) (x3 : Int32), B_X8_few_15 fu o x1 n S x2 x3 = some res → J E 0 0 15 [(0, vR (some o)), (1, vI x1), (2, vI x2), (3, vI x3)] [] S ad := by
  intro n
  induction n with
  | zero =>
    intro S x2 x3 h
    cases h
  | succ n ih =>
    intro S x2 x3 h
    exact wl_X8_few_15 K X ih h
def F_X8_few (fu : Nat) (S : Hp) (o : Nat) (x1 : Int32) : Option (Int32 × Hp) :=
  (ob S 6 (some o)).bind fun _ =>
  b2 (F_X8_isOne S o x1) fun v2 S2 =>
  if v2 = 0 then
    some ((-5 : Int32), S2)
  else
    B_X8_few_15 fu o x1 fu S2 (0 : Int32) (0 : Int32)
set_option maxRecDepth 100000 in
set_option maxHeartbeats 4000000 in
theorem w_X8_few {E : Cx} {l : Launch} {res : Int32 × Hp} {ad : Nat → Nat} {fu : Nat} {S : Hp} {o : Nat} {x1 : Int32} (K : Kx E cX8_few RX8 (rmd 2 0 0)) (X : Bx E l yX8_few 5 (some .int) 0 0 ad (QI res)) (h : F_X8_few fu S o x1 = some res) : J E 0 0 0 [(0, vR (some o)), (1, vI x1)] [] S ad := by
  refine j_aload_n K dX8_few_0 rfl 0 rfl ?_
  refine j_iload_n K dX8_few_1 rfl 1 rfl ?_
  obtain ⟨w2, ew2, h⟩ := bd h
  have ho2 := obS ew2
  obtain ⟨v2, S2, e2, h⟩ := bd2 h
  refine j_cI (st := []) K (r_V (vs := [vI x1]) (n := 1) (o := o) K (c_X8_isOne e2) ho2 (by decide) rfl dX8_few_2 z1003 z1005 zs35 z13 z1006 ⟨zd_X8_isOne, rfl, rfl, rfl, ⟨Nat.le_of_ble_eq_true rfl, Nat.le_of_ble_eq_true rfl⟩, Nat.le_of_ble_eq_true rfl, Nat.le_of_ble_eq_true rfl, Nat.le_of_ble_eq_true rfl⟩) rfl ?_
  refine j_if_ne K dX8_few_5 (fun c5 => ?_) (fun c5 => ?_)
  · replace h := ie c5 h
    refine j_iconst (v := (0 : Int32)) K dX8_few_11 (by decide) ?_
    refine j_istore_n (lv' := [(2, vI (0 : Int32)), (0, vR (some o)), (1, vI x1)]) K dX8_few_12 rfl X.2.2.1 (by decide) rfl ?_
    refine j_iconst (v := (0 : Int32)) K dX8_few_13 (by decide) ?_
    refine j_istore_n (lv' := [(3, vI (0 : Int32)), (2, vI (0 : Int32)), (0, vR (some o)), (1, vI x1)]) K dX8_few_14 rfl X.2.2.1 (by decide) rfl ?_
    exact j_sub [2, 3, 1, 0] rfl (w_X8_few_15 K X _ _ _ _ h)
  · replace h := it c5 h
    refine j_bipush (v := (-5 : Int32)) K dX8_few_8 (by decide) ?_
    exact j_iret K X dX8_few_10 h
theorem c_X8_few {l : Launch} {fu : Nat} {S : Hp} {o : Nat} {x1 : Int32} {res : Int32 × Hp} (h : F_X8_few fu S o x1 = some res) : Ct l yX8_few cX8_few 5 (some .int) (rmd 2 0 0) 0 0 [vR (some o), vI x1] S (QI res) :=
  z_entry (by decide +kernel) (Nat.le_of_ble_eq_true rfl) (fun E ad K X => w_X8_few K X h)

theorem dX8_hire_0 : decode cX8_hire 0 = .ok (.aload_n 0, 1) ∧ 0 + 1 = 1 := ⟨by decide +kernel, rfl⟩
theorem dX8_hire_1 : decode cX8_hire 1 = .ok (.iload_n 1, 1) ∧ 1 + 1 = 2 := ⟨by decide +kernel, rfl⟩
theorem dX8_hire_2 : decode cX8_hire 2 = .ok (.invokevirtual 182, 3) := by decide +kernel
theorem dX8_hire_5 : decode cX8_hire 5 = .ok (.ifCond .ne 6, 3) ∧ 5 + 3 = 8 ∧ ((5 : Nat) : Int) + (6) = ((11 : Nat) : Int) := ⟨by decide +kernel, rfl, by decide⟩
theorem dX8_hire_8 : decode cX8_hire 8 = .ok (.bipush (-5), 2) ∧ 8 + 2 = 10 := ⟨by decide +kernel, rfl⟩
theorem dX8_hire_10 : decode cX8_hire 10 = .ok (.ireturn, 1) := by decide +kernel
theorem dX8_hire_11 : decode cX8_hire 11 = .ok (.iload_n 2, 1) ∧ 11 + 1 = 12 := ⟨by decide +kernel, rfl⟩
theorem dX8_hire_12 : decode cX8_hire 12 = .ok (.iconst 0, 1) ∧ 12 + 1 = 13 := ⟨by decide +kernel, rfl⟩
theorem dX8_hire_13 : decode cX8_hire 13 = .ok (.iconst 1, 1) ∧ 13 + 1 = 14 := ⟨by decide +kernel, rfl⟩
theorem dX8_hire_14 : decode cX8_hire 14 = .ok (.invokestatic 87, 3) := by decide +kernel
theorem dX8_hire_17 : decode cX8_hire 17 = .ok (.ifCond .ne 6, 3) ∧ 17 + 3 = 20 ∧ ((17 : Nat) : Int) + (6) = ((23 : Nat) : Int) := ⟨by decide +kernel, rfl, by decide⟩
theorem dX8_hire_20 : decode cX8_hire 20 = .ok (.bipush (-7), 2) ∧ 20 + 2 = 22 := ⟨by decide +kernel, rfl⟩
theorem dX8_hire_22 : decode cX8_hire 22 = .ok (.ireturn, 1) := by decide +kernel
theorem dX8_hire_23 : decode cX8_hire 23 = .ok (.iconst (-1), 1) ∧ 23 + 1 = 24 := ⟨by decide +kernel, rfl⟩
theorem dX8_hire_24 : decode cX8_hire 24 = .ok (.istore_n 3, 1) ∧ 24 + 1 = 25 := ⟨by decide +kernel, rfl⟩
theorem dX8_hire_25 : decode cX8_hire 25 = .ok (.iconst (-1), 1) ∧ 25 + 1 = 26 := ⟨by decide +kernel, rfl⟩
theorem dX8_hire_26 : decode cX8_hire 26 = .ok (.istore 4, 2) ∧ 26 + 2 = 28 := ⟨by decide +kernel, rfl⟩
theorem dX8_hire_28 : decode cX8_hire 28 = .ok (.iconst 0, 1) ∧ 28 + 1 = 29 := ⟨by decide +kernel, rfl⟩
theorem dX8_hire_29 : decode cX8_hire 29 = .ok (.istore 5, 2) ∧ 29 + 2 = 31 := ⟨by decide +kernel, rfl⟩
theorem dX8_hire_31 : decode cX8_hire 31 = .ok (.iload 5, 2) ∧ 31 + 2 = 33 := ⟨by decide +kernel, rfl⟩
theorem dX8_hire_33 : decode cX8_hire 33 = .ok (.aload_n 0, 1) ∧ 33 + 1 = 34 := ⟨by decide +kernel, rfl⟩
theorem dX8_hire_34 : decode cX8_hire 34 = .ok (.getfield 84, 3) ∧ 34 + 3 = 37 := ⟨by decide +kernel, rfl⟩
theorem dX8_hire_37 : decode cX8_hire 37 = .ok (.if_icmp .ge 108, 3) ∧ 37 + 3 = 40 ∧ ((37 : Nat) : Int) + (108) = ((145 : Nat) : Int) := ⟨by decide +kernel, rfl, by decide⟩
theorem dX8_hire_40 : decode cX8_hire 40 = .ok (.iload 5, 2) ∧ 40 + 2 = 42 := ⟨by decide +kernel, rfl⟩
theorem dX8_hire_42 : decode cX8_hire 42 = .ok (.iload_n 1, 1) ∧ 42 + 1 = 43 := ⟨by decide +kernel, rfl⟩
theorem dX8_hire_43 : decode cX8_hire 43 = .ok (.if_icmp .eq 96, 3) ∧ 43 + 3 = 46 ∧ ((43 : Nat) : Int) + (96) = ((139 : Nat) : Int) := ⟨by decide +kernel, rfl, by decide⟩
theorem dX8_hire_46 : decode cX8_hire 46 = .ok (.iconst 0, 1) ∧ 46 + 1 = 47 := ⟨by decide +kernel, rfl⟩
theorem dX8_hire_47 : decode cX8_hire 47 = .ok (.istore 6, 2) ∧ 47 + 2 = 49 := ⟨by decide +kernel, rfl⟩
theorem dX8_hire_49 : decode cX8_hire 49 = .ok (.iconst 0, 1) ∧ 49 + 1 = 50 := ⟨by decide +kernel, rfl⟩
theorem dX8_hire_50 : decode cX8_hire 50 = .ok (.istore 7, 2) ∧ 50 + 2 = 52 := ⟨by decide +kernel, rfl⟩
theorem dX8_hire_52 : decode cX8_hire 52 = .ok (.iload 7, 2) ∧ 52 + 2 = 54 := ⟨by decide +kernel, rfl⟩
theorem dX8_hire_54 : decode cX8_hire 54 = .ok (.aload_n 0, 1) ∧ 54 + 1 = 55 := ⟨by decide +kernel, rfl⟩
theorem dX8_hire_55 : decode cX8_hire 55 = .ok (.getfield 91, 3) ∧ 55 + 3 = 58 := ⟨by decide +kernel, rfl⟩
theorem dX8_hire_58 : decode cX8_hire 58 = .ok (.if_icmp .ge 36, 3) ∧ 58 + 3 = 61 ∧ ((58 : Nat) : Int) + (36) = ((94 : Nat) : Int) := ⟨by decide +kernel, rfl, by decide⟩
theorem dX8_hire_61 : decode cX8_hire 61 = .ok (.iload 6, 2) ∧ 61 + 2 = 63 := ⟨by decide +kernel, rfl⟩
theorem dX8_hire_63 : decode cX8_hire 63 = .ok (.aload_n 0, 1) ∧ 63 + 1 = 64 := ⟨by decide +kernel, rfl⟩
theorem dX8_hire_64 : decode cX8_hire 64 = .ok (.iload_n 1, 1) ∧ 64 + 1 = 65 := ⟨by decide +kernel, rfl⟩
theorem dX8_hire_65 : decode cX8_hire 65 = .ok (.iload 7, 2) ∧ 65 + 2 = 67 := ⟨by decide +kernel, rfl⟩
theorem dX8_hire_67 : decode cX8_hire 67 = .ok (.invokevirtual 188, 3) := by decide +kernel
theorem dX8_hire_70 : decode cX8_hire 70 = .ok (.ifCond .eq 14, 3) ∧ 70 + 3 = 73 ∧ ((70 : Nat) : Int) + (14) = ((84 : Nat) : Int) := ⟨by decide +kernel, rfl, by decide⟩
theorem dX8_hire_73 : decode cX8_hire 73 = .ok (.aload_n 0, 1) ∧ 73 + 1 = 74 := ⟨by decide +kernel, rfl⟩
theorem dX8_hire_74 : decode cX8_hire 74 = .ok (.iload 5, 2) ∧ 74 + 2 = 76 := ⟨by decide +kernel, rfl⟩
theorem dX8_hire_76 : decode cX8_hire 76 = .ok (.iload 7, 2) ∧ 76 + 2 = 78 := ⟨by decide +kernel, rfl⟩
theorem dX8_hire_78 : decode cX8_hire 78 = .ok (.invokevirtual 235, 3) := by decide +kernel
theorem dX8_hire_81 : decode cX8_hire 81 = .ok (.goto 4, 3) ∧ ((81 : Nat) : Int) + (4) = ((85 : Nat) : Int) := ⟨by decide +kernel, by decide⟩
theorem dX8_hire_84 : decode cX8_hire 84 = .ok (.iconst 0, 1) ∧ 84 + 1 = 85 := ⟨by decide +kernel, rfl⟩
theorem dX8_hire_85 : decode cX8_hire 85 = .ok (.iadd, 1) ∧ 85 + 1 = 86 := ⟨by decide +kernel, rfl⟩
theorem dX8_hire_86 : decode cX8_hire 86 = .ok (.istore 6, 2) ∧ 86 + 2 = 88 := ⟨by decide +kernel, rfl⟩
theorem dX8_hire_88 : decode cX8_hire 88 = .ok (.iinc 7 1, 3) ∧ 88 + 3 = 91 := ⟨by decide +kernel, rfl⟩
theorem dX8_hire_91 : decode cX8_hire 91 = .ok (.goto (-39), 3) ∧ ((91 : Nat) : Int) + (-39) = ((52 : Nat) : Int) := ⟨by decide +kernel, by decide⟩
theorem dX8_hire_94 : decode cX8_hire 94 = .ok (.iload_n 3, 1) ∧ 94 + 1 = 95 := ⟨by decide +kernel, rfl⟩
theorem dX8_hire_95 : decode cX8_hire 95 = .ok (.iconst (-1), 1) ∧ 95 + 1 = 96 := ⟨by decide +kernel, rfl⟩
theorem dX8_hire_96 : decode cX8_hire 96 = .ok (.if_icmp .eq 10, 3) ∧ 96 + 3 = 99 ∧ ((96 : Nat) : Int) + (10) = ((106 : Nat) : Int) := ⟨by decide +kernel, rfl, by decide⟩
theorem dX8_hire_99 : decode cX8_hire 99 = .ok (.iload 6, 2) ∧ 99 + 2 = 101 := ⟨by decide +kernel, rfl⟩
theorem dX8_hire_101 : decode cX8_hire 101 = .ok (.iload 4, 2) ∧ 101 + 2 = 103 := ⟨by decide +kernel, rfl⟩
theorem dX8_hire_103 : decode cX8_hire 103 = .ok (.if_icmp .ge 7, 3) ∧ 103 + 3 = 106 ∧ ((103 : Nat) : Int) + (7) = ((110 : Nat) : Int) := ⟨by decide +kernel, rfl, by decide⟩
theorem dX8_hire_106 : decode cX8_hire 106 = .ok (.iconst 1, 1) ∧ 106 + 1 = 107 := ⟨by decide +kernel, rfl⟩
theorem dX8_hire_107 : decode cX8_hire 107 = .ok (.goto 4, 3) ∧ ((107 : Nat) : Int) + (4) = ((111 : Nat) : Int) := ⟨by decide +kernel, by decide⟩
theorem dX8_hire_110 : decode cX8_hire 110 = .ok (.iconst 0, 1) ∧ 110 + 1 = 111 := ⟨by decide +kernel, rfl⟩
theorem dX8_hire_111 : decode cX8_hire 111 = .ok (.istore 7, 2) ∧ 111 + 2 = 113 := ⟨by decide +kernel, rfl⟩
theorem dX8_hire_113 : decode cX8_hire 113 = .ok (.iload 7, 2) ∧ 113 + 2 = 115 := ⟨by decide +kernel, rfl⟩
theorem dX8_hire_115 : decode cX8_hire 115 = .ok (.ifCond .eq 8, 3) ∧ 115 + 3 = 118 ∧ ((115 : Nat) : Int) + (8) = ((123 : Nat) : Int) := ⟨by decide +kernel, rfl, by decide⟩
theorem dX8_hire_118 : decode cX8_hire 118 = .ok (.iload 5, 2) ∧ 118 + 2 = 120 := ⟨by decide +kernel, rfl⟩
theorem dX8_hire_120 : decode cX8_hire 120 = .ok (.goto 4, 3) ∧ ((120 : Nat) : Int) + (4) = ((124 : Nat) : Int) := ⟨by decide +kernel, by decide⟩
theorem dX8_hire_123 : decode cX8_hire 123 = .ok (.iload_n 3, 1) ∧ 123 + 1 = 124 := ⟨by decide +kernel, rfl⟩
theorem dX8_hire_124 : decode cX8_hire 124 = .ok (.istore_n 3, 1) ∧ 124 + 1 = 125 := ⟨by decide +kernel, rfl⟩
theorem dX8_hire_125 : decode cX8_hire 125 = .ok (.iload 7, 2) ∧ 125 + 2 = 127 := ⟨by decide +kernel, rfl⟩
theorem dX8_hire_127 : decode cX8_hire 127 = .ok (.ifCond .eq 8, 3) ∧ 127 + 3 = 130 ∧ ((127 : Nat) : Int) + (8) = ((135 : Nat) : Int) := ⟨by decide +kernel, rfl, by decide⟩
theorem dX8_hire_130 : decode cX8_hire 130 = .ok (.iload 6, 2) ∧ 130 + 2 = 132 := ⟨by decide +kernel, rfl⟩
theorem dX8_hire_132 : decode cX8_hire 132 = .ok (.goto 5, 3) ∧ ((132 : Nat) : Int) + (5) = ((137 : Nat) : Int) := ⟨by decide +kernel, by decide⟩
theorem dX8_hire_135 : decode cX8_hire 135 = .ok (.iload 4, 2) ∧ 135 + 2 = 137 := ⟨by decide +kernel, rfl⟩
theorem dX8_hire_137 : decode cX8_hire 137 = .ok (.istore 4, 2) ∧ 137 + 2 = 139 := ⟨by decide +kernel, rfl⟩
theorem dX8_hire_139 : decode cX8_hire 139 = .ok (.iinc 5 1, 3) ∧ 139 + 3 = 142 := ⟨by decide +kernel, rfl⟩
theorem dX8_hire_142 : decode cX8_hire 142 = .ok (.goto (-111), 3) ∧ ((142 : Nat) : Int) + (-111) = ((31 : Nat) : Int) := ⟨by decide +kernel, by decide⟩
theorem dX8_hire_145 : decode cX8_hire 145 = .ok (.iload_n 2, 1) ∧ 145 + 1 = 146 := ⟨by decide +kernel, rfl⟩
theorem dX8_hire_146 : decode cX8_hire 146 = .ok (.ifCond .ne 7, 3) ∧ 146 + 3 = 149 ∧ ((146 : Nat) : Int) + (7) = ((153 : Nat) : Int) := ⟨by decide +kernel, rfl, by decide⟩
theorem dX8_hire_149 : decode cX8_hire 149 = .ok (.iload_n 3, 1) ∧ 149 + 1 = 150 := ⟨by decide +kernel, rfl⟩
theorem dX8_hire_150 : decode cX8_hire 150 = .ok (.goto 5, 3) ∧ ((150 : Nat) : Int) + (5) = ((155 : Nat) : Int) := ⟨by decide +kernel, by decide⟩
theorem dX8_hire_153 : decode cX8_hire 153 = .ok (.iload 4, 2) ∧ 153 + 2 = 155 := ⟨by decide +kernel, rfl⟩
theorem dX8_hire_155 : decode cX8_hire 155 = .ok (.ireturn, 1) := by decide +kernel
def B_X8_hire_139 (k31 : Hp → Int32 → Int32 → Int32 → Option (Int32 × Hp)) (fu : Nat) (o : Nat) (S : Hp) (x1 : Int32) (x2 : Int32) (x3 : Int32) (x4 : Int32) (x5 : Int32) : Option (Int32 × Hp) :=
  k31 S x3 x4 (x5 + (1 : Int32))
set_option maxRecDepth 100000 in
set_option maxHeartbeats 4000000 in
theorem w_X8_hire_139 {E : Cx} {l : Launch} {res : Int32 × Hp} {ad : Nat → Nat} {k31 : Hp → Int32 → Int32 → Int32 → Option (Int32 × Hp)} {fu : Nat} {o : Nat} {S : Hp} {x1 : Int32} {x2 : Int32} {x3 : Int32} {x4 : Int32} {x5 : Int32} (K : Kx E cX8_hire RX8 (rmd 4 0 0)) (X : Bx E l yX8_hire 8 (some .int) 0 0 ad (QI res)) (hk31 : ∀ (S : Hp) (x3 : Int32) (x4 : Int32) (x5 : Int32), k31 S x3 x4 x5 = some res → J E 0 0 31 [(0, vR (some o)), (1, vI x1), (2, vI x2), (3, vI x3), (4, vI x4), (5, vI x5)] [] S ad) (h : B_X8_hire_139 k31 fu o S x1 x2 x3 x4 x5 = some res) : J E 0 0 139 [(0, vR (some o)), (1, vI x1), (2, vI x2), (3, vI x3), (4, vI x4), (5, vI x5)] [] S ad := by
  refine j_iinc (q := 5) (v := (x5 + (1 : Int32))) (lv' := [(5, vI (x5 + (1 : Int32))), (0, vR (some o)), (1, vI x1), (2, vI x2), (3, vI x3), (4, vI x4)]) K dX8_hire_139 rfl rfl X.2.2.1 (by decide) rfl ?_
  refine j_goto K dX8_hire_142 ?_
  exact j_sub [1, 2, 3, 4, 5, 0] rfl (hk31 _ _ _ _ h)
def B_X8_hire_85 (k31 : Hp → Int32 → Int32 → Int32 → Option (Int32 × Hp)) (k52 : Hp → Int32 → Int32 → Option (Int32 × Hp)) (fu : Nat) (o : Nat) (S : Hp) (x1 : Int32) (x2 : Int32) (x3 : Int32) (x4 : Int32) (x5 : Int32) (x7 : Int32) (s0 : Int32) (s1 : Int32) : Option (Int32 × Hp) :=
  k52 S (s1 + s0) (x7 + (1 : Int32))
set_option maxRecDepth 100000 in
set_option maxHeartbeats 4000000 in
theorem w_X8_hire_85 {E : Cx} {l : Launch} {res : Int32 × Hp} {ad : Nat → Nat} {k31 : Hp → Int32 → Int32 → Int32 → Option (Int32 × Hp)} {k52 : Hp → Int32 → Int32 → Option (Int32 × Hp)} {fu : Nat} {o : Nat} {S : Hp} {x1 : Int32} {x2 : Int32} {x3 : Int32} {x4 : Int32} {x5 : Int32} {x7 : Int32} {s0 : Int32} {s1 : Int32} (K : Kx E cX8_hire RX8 (rmd 4 0 0)) (X : Bx E l yX8_hire 8 (some .int) 0 0 ad (QI res)) (hk31 : ∀ (S : Hp) (x3 : Int32) (x4 : Int32) (x5 : Int32), k31 S x3 x4 x5 = some res → J E 0 0 31 [(0, vR (some o)), (1, vI x1), (2, vI x2), (3, vI x3), (4, vI x4), (5, vI x5)] [] S ad) (hk52 : ∀ (S : Hp) (x6 : Int32) (x7 : Int32), k52 S x6 x7 = some res → J E 0 0 52 [(0, vR (some o)), (1, vI x1), (2, vI x2), (3, vI x3), (4, vI x4), (5, vI x5), (6, vI x6), (7, vI x7)] [] S ad) (h : B_X8_hire_85 k31 k52 fu o S x1 x2 x3 x4 x5 x7 s0 s1 = some res) : J E 0 0 85 [(0, vR (some o)), (1, vI x1), (2, vI x2), (3, vI x3), (4, vI x4), (5, vI x5), (7, vI x7)] [vI s0, vI s1] S ad := by
  refine j_iadd K dX8_hire_85 ?_
  refine j_istore (lv' := [(6, vI (s1 + s0)), (0, vR (some o)), (1, vI x1), (2, vI x2), (3, vI x3), (4, vI x4), (5, vI x5), (7, vI x7)]) K dX8_hire_86 X.2.2.1 (by decide) rfl ?_
  refine j_iinc (q := 7) (v := (x7 + (1 : Int32))) (lv' := [(7, vI (x7 + (1 : Int32))), (6, vI (s1 + s0)), (0, vR (some o)), (1, vI x1), (2, vI x2), (3, vI x3), (4, vI x4), (5, vI x5)]) K dX8_hire_88 rfl rfl X.2.2.1 (by decide) rfl ?_
  refine j_goto K dX8_hire_91 ?_
  exact j_sub [2, 3, 4, 5, 6, 7, 1, 0] rfl (hk52 _ _ _ h)
def B_X8_hire_137 (k31 : Hp → Int32 → Int32 → Int32 → Option (Int32 × Hp)) (fu : Nat) (o : Nat) (S : Hp) (x1 : Int32) (x2 : Int32) (x3 : Int32) (x5 : Int32) (s0 : Int32) : Option (Int32 × Hp) :=
  B_X8_hire_139 k31 fu o S x1 x2 x3 s0 x5
set_option maxRecDepth 100000 in
set_option maxHeartbeats 4000000 in
theorem w_X8_hire_137 {E : Cx} {l : Launch} {res : Int32 × Hp} {ad : Nat → Nat} {k31 : Hp → Int32 → Int32 → Int32 → Option (Int32 × Hp)} {fu : Nat} {o : Nat} {S : Hp} {x1 : Int32} {x2 : Int32} {x3 : Int32} {x5 : Int32} {s0 : Int32} (K : Kx E cX8_hire RX8 (rmd 4 0 0)) (X : Bx E l yX8_hire 8 (some .int) 0 0 ad (QI res)) (hk31 : ∀ (S : Hp) (x3 : Int32) (x4 : Int32) (x5 : Int32), k31 S x3 x4 x5 = some res → J E 0 0 31 [(0, vR (some o)), (1, vI x1), (2, vI x2), (3, vI x3), (4, vI x4), (5, vI x5)] [] S ad) (h : B_X8_hire_137 k31 fu o S x1 x2 x3 x5 s0 = some res) : J E 0 0 137 [(0, vR (some o)), (1, vI x1), (2, vI x2), (3, vI x3), (5, vI x5)] [vI s0] S ad := by
  refine j_istore (lv' := [(4, vI s0), (0, vR (some o)), (1, vI x1), (2, vI x2), (3, vI x3), (5, vI x5)]) K dX8_hire_137 X.2.2.1 (by decide) rfl ?_
  exact j_sub [1, 2, 3, 4, 0, 5] rfl (w_X8_hire_139 K X hk31 h)
def B_X8_hire_124 (k31 : Hp → Int32 → Int32 → Int32 → Option (Int32 × Hp)) (fu : Nat) (o : Nat) (S : Hp) (x1 : Int32) (x2 : Int32) (x4 : Int32) (x5 : Int32) (x6 : Int32) (x7 : Int32) (s0 : Int32) : Option (Int32 × Hp) :=
  if x7 = 0 then
    B_X8_hire_137 k31 fu o S x1 x2 s0 x5 x4
  else
    B_X8_hire_137 k31 fu o S x1 x2 s0 x5 x6
set_option maxRecDepth 100000 in
set_option maxHeartbeats 4000000 in
theorem w_X8_hire_124 {E : Cx} {l : Launch} {res : Int32 × Hp} {ad : Nat → Nat} {k31 : Hp → Int32 → Int32 → Int32 → Option (Int32 × Hp)} {fu : Nat} {o : Nat} {S : Hp} {x1 : Int32} {x2 : Int32} {x4 : Int32} {x5 : Int32} {x6 : Int32} {x7 : Int32} {s0 : Int32} (K : Kx E cX8_hire RX8 (rmd 4 0 0)) (X : Bx E l yX8_hire 8 (some .int) 0 0 ad (QI res)) (hk31 : ∀ (S : Hp) (x3 : Int32) (x4 : Int32) (x5 : Int32), k31 S x3 x4 x5 = some res → J E 0 0 31 [(0, vR (some o)), (1, vI x1), (2, vI x2), (3, vI x3), (4, vI x4), (5, vI x5)] [] S ad) (h : B_X8_hire_124 k31 fu o S x1 x2 x4 x5 x6 x7 s0 = some res) : J E 0 0 124 [(0, vR (some o)), (1, vI x1), (2, vI x2), (4, vI x4), (5, vI x5), (6, vI x6), (7, vI x7)] [vI s0] S ad := by
  refine j_istore_n (lv' := [(3, vI s0), (0, vR (some o)), (1, vI x1), (2, vI x2), (4, vI x4), (5, vI x5), (6, vI x6), (7, vI x7)]) K dX8_hire_124 rfl X.2.2.1 (by decide) rfl ?_
  refine j_iload K dX8_hire_125 7 rfl ?_
  refine j_if_eq K dX8_hire_127 (fun c127 => ?_) (fun c127 => ?_)
  · replace h := it c127 h
    refine j_iload K dX8_hire_135 4 rfl ?_
    exact j_sub [1, 2, 3, 0, 5] rfl (w_X8_hire_137 K X hk31 h)
  · replace h := ie c127 h
    refine j_iload K dX8_hire_130 6 rfl ?_
    refine j_goto K dX8_hire_132 ?_
    exact j_sub [1, 2, 3, 0, 5] rfl (w_X8_hire_137 K X hk31 h)
def B_X8_hire_111 (k31 : Hp → Int32 → Int32 → Int32 → Option (Int32 × Hp)) (fu : Nat) (o : Nat) (S : Hp) (x1 : Int32) (x2 : Int32) (x3 : Int32) (x4 : Int32) (x5 : Int32) (x6 : Int32) (s0 : Int32) : Option (Int32 × Hp) :=
  if s0 = 0 then
    B_X8_hire_124 k31 fu o S x1 x2 x4 x5 x6 s0 x3
  else
    B_X8_hire_124 k31 fu o S x1 x2 x4 x5 x6 s0 x5
set_option maxRecDepth 100000 in
set_option maxHeartbeats 4000000 in
theorem w_X8_hire_111 {E : Cx} {l : Launch} {res : Int32 × Hp} {ad : Nat → Nat} {k31 : Hp → Int32 → Int32 → Int32 → Option (Int32 × Hp)} {fu : Nat} {o : Nat} {S : Hp} {x1 : Int32} {x2 : Int32} {x3 : Int32} {x4 : Int32} {x5 : Int32} {x6 : Int32} {s0 : Int32} (K : Kx E cX8_hire RX8 (rmd 4 0 0)) (X : Bx E l yX8_hire 8 (some .int) 0 0 ad (QI res)) (hk31 : ∀ (S : Hp) (x3 : Int32) (x4 : Int32) (x5 : Int32), k31 S x3 x4 x5 = some res → J E 0 0 31 [(0, vR (some o)), (1, vI x1), (2, vI x2), (3, vI x3), (4, vI x4), (5, vI x5)] [] S ad) (h : B_X8_hire_111 k31 fu o S x1 x2 x3 x4 x5 x6 s0 = some res) : J E 0 0 111 [(0, vR (some o)), (1, vI x1), (2, vI x2), (3, vI x3), (4, vI x4), (5, vI x5), (6, vI x6)] [vI s0] S ad := by
  refine j_istore (lv' := [(7, vI s0), (0, vR (some o)), (1, vI x1), (2, vI x2), (3, vI x3), (4, vI x4), (5, vI x5), (6, vI x6)]) K dX8_hire_111 X.2.2.1 (by decide) rfl ?_
  refine j_iload K dX8_hire_113 0 rfl ?_
  refine j_if_eq K dX8_hire_115 (fun c115 => ?_) (fun c115 => ?_)
  · replace h := it c115 h
    refine j_iload_n K dX8_hire_123 rfl 4 rfl ?_
    exact j_sub [1, 2, 3, 5, 6, 7, 0] rfl (w_X8_hire_124 K X hk31 h)
  · replace h := ie c115 h
    refine j_iload K dX8_hire_118 6 rfl ?_
    refine j_goto K dX8_hire_120 ?_
    exact j_sub [1, 2, 3, 5, 6, 7, 0] rfl (w_X8_hire_124 K X hk31 h)
def B_X8_hire_106 (k31 : Hp → Int32 → Int32 → Int32 → Option (Int32 × Hp)) (fu : Nat) (o : Nat) (S : Hp) (x1 : Int32) (x2 : Int32) (x3 : Int32) (x4 : Int32) (x5 : Int32) (x6 : Int32) : Option (Int32 × Hp) :=
  B_X8_hire_111 k31 fu o S x1 x2 x3 x4 x5 x6 (1 : Int32)
set_option maxRecDepth 100000 in
set_option maxHeartbeats 4000000 in
theorem w_X8_hire_106 {E : Cx} {l : Launch} {res : Int32 × Hp} {ad : Nat → Nat} {k31 : Hp → Int32 → Int32 → Int32 → Option (Int32 × Hp)} {fu : Nat} {o : Nat} {S : Hp} {x1 : Int32} {x2 : Int32} {x3 : Int32} {x4 : Int32} {x5 : Int32} {x6 : Int32} (K : Kx E cX8_hire RX8 (rmd 4 0 0)) (X : Bx E l yX8_hire 8 (some .int) 0 0 ad (QI res)) (hk31 : ∀ (S : Hp) (x3 : Int32) (x4 : Int32) (x5 : Int32), k31 S x3 x4 x5 = some res → J E 0 0 31 [(0, vR (some o)), (1, vI x1), (2, vI x2), (3, vI x3), (4, vI x4), (5, vI x5)] [] S ad) (h : B_X8_hire_106 k31 fu o S x1 x2 x3 x4 x5 x6 = some res) : J E 0 0 106 [(0, vR (some o)), (1, vI x1), (2, vI x2), (3, vI x3), (4, vI x4), (5, vI x5), (6, vI x6)] [] S ad := by
  refine j_iconst (v := (1 : Int32)) K dX8_hire_106 (by decide) ?_
  refine j_goto K dX8_hire_107 ?_
  exact w_X8_hire_111 K X hk31 h
def L_X8_hire_52 (k31 : Hp → Int32 → Int32 → Int32 → Option (Int32 × Hp)) (k52 : Hp → Int32 → Int32 → Option (Int32 × Hp)) (fu : Nat) (o : Nat) (x1 : Int32) (x2 : Int32) (x3 : Int32) (x4 : Int32) (x5 : Int32) (S : Hp) (x6 : Int32) (x7 : Int32) : Option (Int32 × Hp) :=
  (gI S (some o) 6 7).bind fun v55 =>
  if v55 ≤ x7 then
    if x3 = (-1 : Int32) then
      B_X8_hire_106 k31 fu o S x1 x2 x3 x4 x5 x6
    else
      if x4 ≤ x6 then
        B_X8_hire_111 k31 fu o S x1 x2 x3 x4 x5 x6 (0 : Int32)
      else
        B_X8_hire_106 k31 fu o S x1 x2 x3 x4 x5 x6
  else
    (ob S 6 (some o)).bind fun _ =>
    b2 (F_X8_did S o x1 x7) fun v67 S67 =>
    if v67 = 0 then
      B_X8_hire_85 k31 k52 fu o S67 x1 x2 x3 x4 x5 x7 (0 : Int32) x6
    else
      (ob S67 6 (some o)).bind fun _ =>
      b2 (F_X8_paysOf fu S67 o x5 x7) fun v78 S78 =>
      B_X8_hire_85 k31 k52 fu o S78 x1 x2 x3 x4 x5 x7 v78 x6
set_option maxRecDepth 100000 in
set_option maxHeartbeats 4000000 in
theorem wl_X8_hire_52 {E : Cx} {l : Launch} {res : Int32 × Hp} {ad : Nat → Nat} {k31 : Hp → Int32 → Int32 → Int32 → Option (Int32 × Hp)} {k52 : Hp → Int32 → Int32 → Option (Int32 × Hp)} {fu : Nat} {o : Nat} {S : Hp} {x1 : Int32} {x2 : Int32} {x3 : Int32} {x4 : Int32} {x5 : Int32} {x6 : Int32} {x7 : Int32} (K : Kx E cX8_hire RX8 (rmd 4 0 0)) (X : Bx E l yX8_hire 8 (some .int) 0 0 ad (QI res)) (hk31 : ∀ (S : Hp) (x3 : Int32) (x4 : Int32) (x5 : Int32), k31 S x3 x4 x5 = some res → J E 0 0 31 [(0, vR (some o)), (1, vI x1), (2, vI x2), (3, vI x3), (4, vI x4), (5, vI x5)] [] S ad) (hk52 : ∀ (S : Hp) (x6 : Int32) (x7 : Int32), k52 S x6 x7 = some res → J E 0 0 52 [(0, vR (some o)), (1, vI x1), (2, vI x2), (3, vI x3), (4, vI x4), (5, vI x5), (6, vI x6), (7, vI x7)] [] S ad) (h : L_X8_hire_52 k31 k52 fu o x1 x2 x3 x4 x5 S x6 x7 = some res) : J E 0 0 52 [(0, vR (some o)), (1, vI x1), (2, vI x2), (3, vI x3), (4, vI x4), (5, vI x5), (6, vI x6), (7, vI x7)] [] S ad := by
  refine j_iload K dX8_hire_52 7 rfl ?_
  refine j_aload_n K dX8_hire_54 rfl 0 rfl ?_
  obtain ⟨v55, e55, h⟩ := bd h
  refine fgX8_91 K dX8_hire_55 e55 ?_
  refine j_icmp_ge K dX8_hire_58 (fun c58 => ?_) (fun c58 => ?_)
  · replace h := it c58 h
    refine j_iload_n K dX8_hire_94 rfl 3 rfl ?_
    refine j_iconst (v := (-1 : Int32)) K dX8_hire_95 (by decide) ?_
    refine j_icmp_eq K dX8_hire_96 (fun c96 => ?_) (fun c96 => ?_)
    · replace h := it c96 h
      exact j_sub [0, 1, 2, 3, 4, 5, 6] rfl (w_X8_hire_106 K X hk31 h)
    · replace h := ie c96 h
      refine j_iload K dX8_hire_99 6 rfl ?_
      refine j_iload K dX8_hire_101 4 rfl ?_
      refine j_icmp_ge K dX8_hire_103 (fun c103 => ?_) (fun c103 => ?_)
      · replace h := it c103 h
        refine j_iconst (v := (0 : Int32)) K dX8_hire_110 (by decide) ?_
        exact j_sub [0, 1, 2, 3, 4, 5, 6] rfl (w_X8_hire_111 K X hk31 h)
      · replace h := ie c103 h
        exact j_sub [0, 1, 2, 3, 4, 5, 6] rfl (w_X8_hire_106 K X hk31 h)
  · replace h := ie c58 h
    refine j_iload K dX8_hire_61 6 rfl ?_
    refine j_aload_n K dX8_hire_63 rfl 0 rfl ?_
    refine j_iload_n K dX8_hire_64 rfl 1 rfl ?_
    refine j_iload K dX8_hire_65 7 rfl ?_
    obtain ⟨w67, ew67, h⟩ := bd h
    have ho67 := obS ew67
    obtain ⟨v67, S67, e67, h⟩ := bd2 h
    refine j_cI (st := [vI x6]) K (r_V (vs := [vI x1, vI x7]) (n := 2) (o := o) K (c_X8_did e67) ho67 (by decide) rfl dX8_hire_67 z1040 z1042 zs39 z13 z1043 ⟨zd_X8_did, rfl, rfl, rfl, ⟨Nat.le_of_ble_eq_true rfl, Nat.le_of_ble_eq_true rfl⟩, Nat.le_of_ble_eq_true rfl, Nat.le_of_ble_eq_true rfl, Nat.le_of_ble_eq_true rfl⟩) rfl ?_
    refine j_if_eq K dX8_hire_70 (fun c70 => ?_) (fun c70 => ?_)
    · replace h := it c70 h
      refine j_iconst (v := (0 : Int32)) K dX8_hire_84 (by decide) ?_
      exact j_sub [0, 1, 2, 3, 4, 5, 7] rfl (w_X8_hire_85 K X hk31 hk52 h)
    · replace h := ie c70 h
      refine j_aload_n K dX8_hire_73 rfl 0 rfl ?_
      refine j_iload K dX8_hire_74 5 rfl ?_
      refine j_iload K dX8_hire_76 7 rfl ?_
      obtain ⟨w78, ew78, h⟩ := bd h
      have ho78 := obS ew78
      obtain ⟨v78, S78, e78, h⟩ := bd2 h
      refine j_cI (st := [vI x6]) K (r_V (vs := [vI x5, vI x7]) (n := 2) (o := o) K (c_X8_paysOf e78) ho78 (by decide) rfl dX8_hire_78 z1120 z1122 zs53 z13 z1123 ⟨zd_X8_paysOf, rfl, rfl, rfl, ⟨Nat.le_of_ble_eq_true rfl, Nat.le_of_ble_eq_true rfl⟩, Nat.le_of_ble_eq_true rfl, Nat.le_of_ble_eq_true rfl, Nat.le_of_ble_eq_true rfl⟩) rfl ?_
      refine j_goto K dX8_hire_81 ?_
      exact j_sub [0, 1, 2, 3, 4, 5, 7] rfl (w_X8_hire_85 K X hk31 hk52 h)
def B_X8_hire_52 (k31 : Hp → Int32 → Int32 → Int32 → Option (Int32 × Hp)) (fu : Nat) (o : Nat) (x1 : Int32) (x2 : Int32) (x3 : Int32) (x4 : Int32) (x5 : Int32) : Nat → Hp → Int32 → Int32 → Option (Int32 × Hp)
  | 0 => fun _ _ _ => none
  | n + 1 => L_X8_hire_52 k31 (B_X8_hire_52 k31 fu o x1 x2 x3 x4 x5 n) fu o x1 x2 x3 x4 x5
theorem w_X8_hire_52 {E : Cx} {l : Launch} {res : Int32 × Hp} {ad : Nat → Nat} {k31 : Hp → Int32 → Int32 → Int32 → Option (Int32 × Hp)} {fu : Nat} {o : Nat} {x1 : Int32} {x2 : Int32} {x3 : Int32} {x4 : Int32} {x5 : Int32} (K : Kx E cX8_hire RX8 (rmd 4 0 0)) (X : Bx E l yX8_hire 8 (some .int) 0 0 ad (QI res)) (hk31 : ∀ (S : Hp) (x3 : Int32) (x4 : Int32) (x5 : Int32), k31 S x3 x4 x5 = some res → J E 0 0 31 [(0, vR (some o)), (1, vI x1), (2, vI x2), (3, vI x3), (4, vI x4), (5, vI x5)] [] S ad) : ∀ (n : Nat) (S : Hp) (x6 : Int32) (x7 : Int32), B_X8_hire_52 k31 fu o x1 x2 x3 x4 x5 n S x6 x7 = some res → J E 0 0 52 [(0, vR (some o)), (1, vI x1), (2, vI x2), (3, vI x3), (4, vI x4), (5, vI x5), (6, vI x6), (7, vI x7)] [] S ad := by
  intro n
  induction n with
  | zero =>
    intro S x6 x7 h
    cases h
  | succ n ih =>
    intro S x6 x7 h
    exact wl_X8_hire_52 K X hk31 ih h
def B_X8_hire_155 (fu : Nat) (o : Nat) (S : Hp) (s0 : Int32) : Option (Int32 × Hp) :=
  some (s0, S)
set_option maxRecDepth 100000 in
set_option maxHeartbeats 4000000 in
theorem w_X8_hire_155 {E : Cx} {l : Launch} {res : Int32 × Hp} {ad : Nat → Nat} {fu : Nat} {o : Nat} {S : Hp} {s0 : Int32} (K : Kx E cX8_hire RX8 (rmd 4 0 0)) (X : Bx E l yX8_hire 8 (some .int) 0 0 ad (QI res)) (h : B_X8_hire_155 fu o S s0 = some res) : J E 0 0 155 [] [vI s0] S ad := by
  exact j_iret K X dX8_hire_155 h
def L_X8_hire_31 (k31 : Hp → Int32 → Int32 → Int32 → Option (Int32 × Hp)) (fu : Nat) (o : Nat) (x1 : Int32) (x2 : Int32) (S : Hp) (x3 : Int32) (x4 : Int32) (x5 : Int32) : Option (Int32 × Hp) :=
  (gI S (some o) 6 0).bind fun v34 =>
  if v34 ≤ x5 then
    if x2 = 0 then
      B_X8_hire_155 fu o S x3
    else
      B_X8_hire_155 fu o S x4
  else
    if x5 = x1 then
      B_X8_hire_139 k31 fu o S x1 x2 x3 x4 x5
    else
      B_X8_hire_52 k31 fu o x1 x2 x3 x4 x5 fu S (0 : Int32) (0 : Int32)
set_option maxRecDepth 100000 in
set_option maxHeartbeats 4000000 in
theorem wl_X8_hire_31 {E : Cx} {l : Launch} {res : Int32 × Hp} {ad : Nat → Nat} {k31 : Hp → Int32 → Int32 → Int32 → Option (Int32 × Hp)} {fu : Nat} {o : Nat} {S : Hp} {x1 : Int32} {x2 : Int32} {x3 : Int32} {x4 : Int32} {x5 : Int32} (K : Kx E cX8_hire RX8 (rmd 4 0 0)) (X : Bx E l yX8_hire 8 (some .int) 0 0 ad (QI res)) (hk31 : ∀ (S : Hp) (x3 : Int32) (x4 : Int32) (x5 : Int32), k31 S x3 x4 x5 = some res → J E 0 0 31 [(0, vR (some o)), (1, vI x1), (2, vI x2), (3, vI x3), (4, vI x4), (5, vI x5)] [] S ad) (h : L_X8_hire_31 k31 fu o x1 x2 S x3 x4 x5 = some res) : J E 0 0 31 [(0, vR (some o)), (1, vI x1), (2, vI x2), (3, vI x3), (4, vI x4), (5, vI x5)] [] S ad := by
  refine j_iload K dX8_hire_31 5 rfl ?_
  refine j_aload_n K dX8_hire_33 rfl 0 rfl ?_
  obtain ⟨v34, e34, h⟩ := bd h
  refine fgX8_84 K dX8_hire_34 e34 ?_
  refine j_icmp_ge K dX8_hire_37 (fun c37 => ?_) (fun c37 => ?_)
  · replace h := it c37 h
    refine j_iload_n K dX8_hire_145 rfl 2 rfl ?_
    refine j_if_ne K dX8_hire_146 (fun c146 => ?_) (fun c146 => ?_)
    · replace h := ie c146 h
      refine j_iload K dX8_hire_153 4 rfl ?_
      exact j_sub [] rfl (w_X8_hire_155 K X h)
    · replace h := it c146 h
      refine j_iload_n K dX8_hire_149 rfl 3 rfl ?_
      refine j_goto K dX8_hire_150 ?_
      exact j_sub [] rfl (w_X8_hire_155 K X h)
  · replace h := ie c37 h
    refine j_iload K dX8_hire_40 5 rfl ?_
    refine j_iload_n K dX8_hire_42 rfl 1 rfl ?_
    refine j_icmp_eq K dX8_hire_43 (fun c43 => ?_) (fun c43 => ?_)
    · replace h := it c43 h
      exact w_X8_hire_139 K X hk31 h
    · replace h := ie c43 h
      refine j_iconst (v := (0 : Int32)) K dX8_hire_46 (by decide) ?_
      refine j_istore (lv' := [(6, vI (0 : Int32)), (0, vR (some o)), (1, vI x1), (2, vI x2), (3, vI x3), (4, vI x4), (5, vI x5)]) K dX8_hire_47 X.2.2.1 (by decide) rfl ?_
      refine j_iconst (v := (0 : Int32)) K dX8_hire_49 (by decide) ?_
      refine j_istore (lv' := [(7, vI (0 : Int32)), (6, vI (0 : Int32)), (0, vR (some o)), (1, vI x1), (2, vI x2), (3, vI x3), (4, vI x4), (5, vI x5)]) K dX8_hire_50 X.2.2.1 (by decide) rfl ?_
      exact j_sub [2, 3, 4, 5, 6, 7, 1, 0] rfl (w_X8_hire_52 K X hk31 _ _ _ _ h)
def B_X8_hire_31 (fu : Nat) (o : Nat) (x1 : Int32) (x2 : Int32) : Nat → Hp → Int32 → Int32 → Int32 → Option (Int32 × Hp)
  | 0 => fun _ _ _ _ => none
  | n + 1 => L_X8_hire_31 (B_X8_hire_31 fu o x1 x2 n) fu o x1 x2
theorem w_X8_hire_31 {E : Cx} {l : Launch} {res : Int32 × Hp} {ad : Nat → Nat} {fu : Nat} {o : Nat} {x1 : Int32} {x2 : Int32} (K : Kx E cX8_hire RX8 (rmd 4 0 0)) (X : Bx E l yX8_hire 8 (some .int) 0 0 ad (QI res)) : ∀ (n : Nat) (S : Hp) (x3 : Int32) (x4 : Int32) (x5 : Int32), B_X8_hire_31 fu o x1 x2 n S x3 x4 x5 = some res → J E 0 0 31 [(0, vR (some o)), (1, vI x1), (2, vI x2), (3, vI x3), (4, vI x4), (5, vI x5)] [] S ad := by
  intro n
  induction n with
  | zero =>
    intro S x3 x4 x5 h
    cases h
  | succ n ih =>
    intro S x3 x4 x5 h
    exact wl_X8_hire_31 K X ih h
def F_X8_hire (fu : Nat) (S : Hp) (o : Nat) (x1 : Int32) (x2 : Int32) : Option (Int32 × Hp) :=
  (ob S 6 (some o)).bind fun _ =>
  b2 (F_X8_isOne S o x1) fun v2 S2 =>
  if v2 = 0 then
    some ((-5 : Int32), S2)
  else
    b2 (F_X8_in S2 x2 (0 : Int32) (1 : Int32)) fun v14 S14 =>
    if v14 = 0 then
      some ((-7 : Int32), S14)
    else
      B_X8_hire_31 fu o x1 x2 fu S14 (-1 : Int32) (-1 : Int32) (0 : Int32)
set_option maxRecDepth 100000 in
set_option maxHeartbeats 4000000 in
theorem w_X8_hire {E : Cx} {l : Launch} {res : Int32 × Hp} {ad : Nat → Nat} {fu : Nat} {S : Hp} {o : Nat} {x1 : Int32} {x2 : Int32} (K : Kx E cX8_hire RX8 (rmd 4 0 0)) (X : Bx E l yX8_hire 8 (some .int) 0 0 ad (QI res)) (h : F_X8_hire fu S o x1 x2 = some res) : J E 0 0 0 [(0, vR (some o)), (1, vI x1), (2, vI x2)] [] S ad := by
  refine j_aload_n K dX8_hire_0 rfl 0 rfl ?_
  refine j_iload_n K dX8_hire_1 rfl 1 rfl ?_
  obtain ⟨w2, ew2, h⟩ := bd h
  have ho2 := obS ew2
  obtain ⟨v2, S2, e2, h⟩ := bd2 h
  refine j_cI (st := []) K (r_V (vs := [vI x1]) (n := 1) (o := o) K (c_X8_isOne e2) ho2 (by decide) rfl dX8_hire_2 z1003 z1005 zs35 z13 z1006 ⟨zd_X8_isOne, rfl, rfl, rfl, ⟨Nat.le_of_ble_eq_true rfl, Nat.le_of_ble_eq_true rfl⟩, Nat.le_of_ble_eq_true rfl, Nat.le_of_ble_eq_true rfl, Nat.le_of_ble_eq_true rfl⟩) rfl ?_
  refine j_if_ne K dX8_hire_5 (fun c5 => ?_) (fun c5 => ?_)
  · replace h := ie c5 h
    refine j_iload_n K dX8_hire_11 rfl 2 rfl ?_
    refine j_iconst (v := (0 : Int32)) K dX8_hire_12 (by decide) ?_
    refine j_iconst (v := (1 : Int32)) K dX8_hire_13 (by decide) ?_
    obtain ⟨v14, S14, e14, h⟩ := bd2 h
    refine j_cI (st := []) K (r_S (vs := [vI x2, vI (0 : Int32), vI (1 : Int32)]) (n := 3) K (c_X8_in e14) dX8_hire_14 z812 z813 z13 z814 ⟨zd_X8_in, rfl, rfl, rfl, ⟨Nat.le_of_ble_eq_true rfl, Nat.le_of_ble_eq_true rfl⟩, Nat.le_of_ble_eq_true rfl, Nat.le_of_ble_eq_true rfl, Nat.le_of_ble_eq_true rfl⟩) rfl ?_
    refine j_if_ne K dX8_hire_17 (fun c17 => ?_) (fun c17 => ?_)
    · replace h := ie c17 h
      refine j_iconst (v := (-1 : Int32)) K dX8_hire_23 (by decide) ?_
      refine j_istore_n (lv' := [(3, vI (-1 : Int32)), (0, vR (some o)), (1, vI x1), (2, vI x2)]) K dX8_hire_24 rfl X.2.2.1 (by decide) rfl ?_
      refine j_iconst (v := (-1 : Int32)) K dX8_hire_25 (by decide) ?_
      refine j_istore (lv' := [(4, vI (-1 : Int32)), (3, vI (-1 : Int32)), (0, vR (some o)), (1, vI x1), (2, vI x2)]) K dX8_hire_26 X.2.2.1 (by decide) rfl ?_
      refine j_iconst (v := (0 : Int32)) K dX8_hire_28 (by decide) ?_
      refine j_istore (lv' := [(5, vI (0 : Int32)), (4, vI (-1 : Int32)), (3, vI (-1 : Int32)), (0, vR (some o)), (1, vI x1), (2, vI x2)]) K dX8_hire_29 X.2.2.1 (by decide) rfl ?_
      exact j_sub [3, 4, 5, 2, 1, 0] rfl (w_X8_hire_31 K X _ _ _ _ _ h)
    · replace h := it c17 h
      refine j_bipush (v := (-7 : Int32)) K dX8_hire_20 (by decide) ?_
      exact j_iret K X dX8_hire_22 h
  · replace h := it c5 h
    refine j_bipush (v := (-5 : Int32)) K dX8_hire_8 (by decide) ?_
    exact j_iret K X dX8_hire_10 h
theorem c_X8_hire {l : Launch} {fu : Nat} {S : Hp} {o : Nat} {x1 : Int32} {x2 : Int32} {res : Int32 × Hp} (h : F_X8_hire fu S o x1 x2 = some res) : Ct l yX8_hire cX8_hire 8 (some .int) (rmd 4 0 0) 0 0 [vR (some o), vI x1, vI x2] S (QI res) :=
  z_entry (by decide +kernel) (Nat.le_of_ble_eq_true rfl) (fun E ad K X => w_X8_hire K X h)

theorem dX8_thoughtAll_0 : decode cX8_thoughtAll 0 = .ok (.iconst 0, 1) ∧ 0 + 1 = 1 := ⟨by decide +kernel, rfl⟩
theorem dX8_thoughtAll_1 : decode cX8_thoughtAll 1 = .ok (.istore_n 1, 1) ∧ 1 + 1 = 2 := ⟨by decide +kernel, rfl⟩
theorem dX8_thoughtAll_2 : decode cX8_thoughtAll 2 = .ok (.iconst 0, 1) ∧ 2 + 1 = 3 := ⟨by decide +kernel, rfl⟩
theorem dX8_thoughtAll_3 : decode cX8_thoughtAll 3 = .ok (.istore_n 2, 1) ∧ 3 + 1 = 4 := ⟨by decide +kernel, rfl⟩
theorem dX8_thoughtAll_4 : decode cX8_thoughtAll 4 = .ok (.iload_n 2, 1) ∧ 4 + 1 = 5 := ⟨by decide +kernel, rfl⟩
theorem dX8_thoughtAll_5 : decode cX8_thoughtAll 5 = .ok (.aload_n 0, 1) ∧ 5 + 1 = 6 := ⟨by decide +kernel, rfl⟩
theorem dX8_thoughtAll_6 : decode cX8_thoughtAll 6 = .ok (.getfield 84, 3) ∧ 6 + 3 = 9 := ⟨by decide +kernel, rfl⟩
theorem dX8_thoughtAll_9 : decode cX8_thoughtAll 9 = .ok (.if_icmp .ge 22, 3) ∧ 9 + 3 = 12 ∧ ((9 : Nat) : Int) + (22) = ((31 : Nat) : Int) := ⟨by decide +kernel, rfl, by decide⟩
theorem dX8_thoughtAll_12 : decode cX8_thoughtAll 12 = .ok (.iload_n 1, 1) ∧ 12 + 1 = 13 := ⟨by decide +kernel, rfl⟩
theorem dX8_thoughtAll_13 : decode cX8_thoughtAll 13 = .ok (.aload_n 0, 1) ∧ 13 + 1 = 14 := ⟨by decide +kernel, rfl⟩
theorem dX8_thoughtAll_14 : decode cX8_thoughtAll 14 = .ok (.iload_n 2, 1) ∧ 14 + 1 = 15 := ⟨by decide +kernel, rfl⟩
theorem dX8_thoughtAll_15 : decode cX8_thoughtAll 15 = .ok (.aload_n 0, 1) ∧ 15 + 1 = 16 := ⟨by decide +kernel, rfl⟩
theorem dX8_thoughtAll_16 : decode cX8_thoughtAll 16 = .ok (.iload_n 2, 1) ∧ 16 + 1 = 17 := ⟨by decide +kernel, rfl⟩
theorem dX8_thoughtAll_17 : decode cX8_thoughtAll 17 = .ok (.invokevirtual 214, 3) := by decide +kernel
theorem dX8_thoughtAll_20 : decode cX8_thoughtAll 20 = .ok (.invokevirtual 220, 3) := by decide +kernel
theorem dX8_thoughtAll_23 : decode cX8_thoughtAll 23 = .ok (.iadd, 1) ∧ 23 + 1 = 24 := ⟨by decide +kernel, rfl⟩
theorem dX8_thoughtAll_24 : decode cX8_thoughtAll 24 = .ok (.istore_n 1, 1) ∧ 24 + 1 = 25 := ⟨by decide +kernel, rfl⟩
theorem dX8_thoughtAll_25 : decode cX8_thoughtAll 25 = .ok (.iinc 2 1, 3) ∧ 25 + 3 = 28 := ⟨by decide +kernel, rfl⟩
theorem dX8_thoughtAll_28 : decode cX8_thoughtAll 28 = .ok (.goto (-24), 3) ∧ ((28 : Nat) : Int) + (-24) = ((4 : Nat) : Int) := ⟨by decide +kernel, by decide⟩
theorem dX8_thoughtAll_31 : decode cX8_thoughtAll 31 = .ok (.iload_n 1, 1) ∧ 31 + 1 = 32 := ⟨by decide +kernel, rfl⟩
theorem dX8_thoughtAll_32 : decode cX8_thoughtAll 32 = .ok (.ireturn, 1) := by decide +kernel
def L_X8_thoughtAll_4 (k4 : Hp → Int32 → Int32 → Option (Int32 × Hp)) (fu : Nat) (o : Nat) (S : Hp) (x1 : Int32) (x2 : Int32) : Option (Int32 × Hp) :=
  (gI S (some o) 6 0).bind fun v6 =>
  if v6 ≤ x2 then
    some (x1, S)
  else
    (ob S 6 (some o)).bind fun _ =>
    b2 (F_X8_beatsOf fu S o x2) fun v17 S17 =>
    (ob S17 6 (some o)).bind fun _ =>
    b2 (F_X8_thoughtOf fu S17 o x2 v17) fun v20 S20 =>
    k4 S20 (x1 + v20) (x2 + (1 : Int32))
set_option maxRecDepth 100000 in
set_option maxHeartbeats 4000000 in
theorem wl_X8_thoughtAll_4 {E : Cx} {l : Launch} {res : Int32 × Hp} {ad : Nat → Nat} {k4 : Hp → Int32 → Int32 → Option (Int32 × Hp)} {fu : Nat} {o : Nat} {S : Hp} {x1 : Int32} {x2 : Int32} (K : Kx E cX8_thoughtAll RX8 (rmd 6 0 0)) (X : Bx E l yX8_thoughtAll 3 (some .int) 0 0 ad (QI res)) (hk4 : ∀ (S : Hp) (x1 : Int32) (x2 : Int32), k4 S x1 x2 = some res → J E 0 0 4 [(0, vR (some o)), (1, vI x1), (2, vI x2)] [] S ad) (h : L_X8_thoughtAll_4 k4 fu o S x1 x2 = some res) : J E 0 0 4 [(0, vR (some o)), (1, vI x1), (2, vI x2)] [] S ad := by
  refine j_iload_n K dX8_thoughtAll_4 rfl 2 rfl ?_
  refine j_aload_n K dX8_thoughtAll_5 rfl 0 rfl ?_
  obtain ⟨v6, e6, h⟩ := bd h
  refine fgX8_84 K dX8_thoughtAll_6 e6 ?_
  refine j_icmp_ge K dX8_thoughtAll_9 (fun c9 => ?_) (fun c9 => ?_)
  · replace h := it c9 h
    refine j_iload_n K dX8_thoughtAll_31 rfl 1 rfl ?_
    exact j_iret K X dX8_thoughtAll_32 h
  · replace h := ie c9 h
    refine j_iload_n K dX8_thoughtAll_12 rfl 1 rfl ?_
    refine j_aload_n K dX8_thoughtAll_13 rfl 0 rfl ?_
    refine j_iload_n K dX8_thoughtAll_14 rfl 2 rfl ?_
    refine j_aload_n K dX8_thoughtAll_15 rfl 0 rfl ?_
    refine j_iload_n K dX8_thoughtAll_16 rfl 2 rfl ?_
    obtain ⟨w17, ew17, h⟩ := bd h
    have ho17 := obS ew17
    obtain ⟨v17, S17, e17, h⟩ := bd2 h
    refine j_cI (st := [vI x2, vR (some o), vI x1]) K (r_V (vs := [vI x2]) (n := 1) (o := o) K (c_X8_beatsOf e17) ho17 (by decide) rfl dX8_thoughtAll_17 z1052 z1054 zs41 z13 z1055 ⟨zd_X8_beatsOf, rfl, rfl, rfl, ⟨Nat.le_of_ble_eq_true rfl, Nat.le_of_ble_eq_true rfl⟩, Nat.le_of_ble_eq_true rfl, Nat.le_of_ble_eq_true rfl, Nat.le_of_ble_eq_true rfl⟩) rfl ?_
    obtain ⟨w20, ew20, h⟩ := bd h
    have ho20 := obS ew20
    obtain ⟨v20, S20, e20, h⟩ := bd2 h
    refine j_cI (st := [vI x1]) K (r_V (vs := [vI x2, vI v17]) (n := 2) (o := o) K (c_X8_thoughtOf e20) ho20 (by decide) rfl dX8_thoughtAll_20 z1080 z1082 zs48 z13 z1083 ⟨zd_X8_thoughtOf, rfl, rfl, rfl, ⟨Nat.le_of_ble_eq_true rfl, Nat.le_of_ble_eq_true rfl⟩, Nat.le_of_ble_eq_true rfl, Nat.le_of_ble_eq_true rfl, Nat.le_of_ble_eq_true rfl⟩) rfl ?_
    refine j_iadd K dX8_thoughtAll_23 ?_
    refine j_istore_n (lv' := [(1, vI (x1 + v20)), (0, vR (some o)), (2, vI x2)]) K dX8_thoughtAll_24 rfl X.2.2.1 (by decide) rfl ?_
    refine j_iinc (q := 2) (v := (x2 + (1 : Int32))) (lv' := [(2, vI (x2 + (1 : Int32))), (1, vI (x1 + v20)), (0, vR (some o))]) K dX8_thoughtAll_25 rfl rfl X.2.2.1 (by decide) rfl ?_
    refine j_goto K dX8_thoughtAll_28 ?_
    exact j_sub [2, 1, 0] rfl (hk4 _ _ _ h)
def B_X8_thoughtAll_4 (fu : Nat) (o : Nat) : Nat → Hp → Int32 → Int32 → Option (Int32 × Hp)
  | 0 => fun _ _ _ => none
  | n + 1 => L_X8_thoughtAll_4 (B_X8_thoughtAll_4 fu o n) fu o
theorem w_X8_thoughtAll_4 {E : Cx} {l : Launch} {res : Int32 × Hp} {ad : Nat → Nat} {fu : Nat} {o : Nat} (K : Kx E cX8_thoughtAll RX8 (rmd 6 0 0)) (X : Bx E l yX8_thoughtAll 3 (some .int) 0 0 ad (QI res)) : ∀ (n : Nat) (S : Hp) (x1 : Int32) (x2 : Int32), B_X8_thoughtAll_4 fu o n S x1 x2 = some res → J E 0 0 4 [(0, vR (some o)), (1, vI x1), (2, vI x2)] [] S ad := by
  intro n
  induction n with
  | zero =>
    intro S x1 x2 h
    cases h
  | succ n ih =>
    intro S x1 x2 h
    exact wl_X8_thoughtAll_4 K X ih h
def F_X8_thoughtAll (fu : Nat) (S : Hp) (o : Nat) : Option (Int32 × Hp) :=
  B_X8_thoughtAll_4 fu o fu S (0 : Int32) (0 : Int32)
set_option maxRecDepth 100000 in
set_option maxHeartbeats 4000000 in
theorem w_X8_thoughtAll {E : Cx} {l : Launch} {res : Int32 × Hp} {ad : Nat → Nat} {fu : Nat} {S : Hp} {o : Nat} (K : Kx E cX8_thoughtAll RX8 (rmd 6 0 0)) (X : Bx E l yX8_thoughtAll 3 (some .int) 0 0 ad (QI res)) (h : F_X8_thoughtAll fu S o = some res) : J E 0 0 0 [(0, vR (some o))] [] S ad := by
  refine j_iconst (v := (0 : Int32)) K dX8_thoughtAll_0 (by decide) ?_
  refine j_istore_n (lv' := [(1, vI (0 : Int32)), (0, vR (some o))]) K dX8_thoughtAll_1 rfl X.2.2.1 (by decide) rfl ?_
  refine j_iconst (v := (0 : Int32)) K dX8_thoughtAll_2 (by decide) ?_
  refine j_istore_n (lv' := [(2, vI (0 : Int32)), (1, vI (0 : Int32)), (0, vR (some o))]) K dX8_thoughtAll_3 rfl X.2.2.1 (by decide) rfl ?_
  exact j_sub [2, 1, 0] rfl (w_X8_thoughtAll_4 K X _ _ _ _ h)
theorem c_X8_thoughtAll {l : Launch} {fu : Nat} {S : Hp} {o : Nat} {res : Int32 × Hp} (h : F_X8_thoughtAll fu S o = some res) : Ct l yX8_thoughtAll cX8_thoughtAll 3 (some .int) (rmd 6 0 0) 0 0 [vR (some o)] S (QI res) :=
  z_entry (by decide +kernel) (Nat.le_of_ble_eq_true rfl) (fun E ad K X => w_X8_thoughtAll K X h)

theorem dX8_keeps_0 : decode cX8_keeps 0 = .ok (.iconst 0, 1) ∧ 0 + 1 = 1 := ⟨by decide +kernel, rfl⟩
theorem dX8_keeps_1 : decode cX8_keeps 1 = .ok (.istore_n 1, 1) ∧ 1 + 1 = 2 := ⟨by decide +kernel, rfl⟩
theorem dX8_keeps_2 : decode cX8_keeps 2 = .ok (.iload_n 1, 1) ∧ 2 + 1 = 3 := ⟨by decide +kernel, rfl⟩
theorem dX8_keeps_3 : decode cX8_keeps 3 = .ok (.bipush 10, 2) ∧ 3 + 2 = 5 := ⟨by decide +kernel, rfl⟩
theorem dX8_keeps_5 : decode cX8_keeps 5 = .ok (.if_icmp .ge 51, 3) ∧ 5 + 3 = 8 ∧ ((5 : Nat) : Int) + (51) = ((56 : Nat) : Int) := ⟨by decide +kernel, rfl, by decide⟩
theorem dX8_keeps_8 : decode cX8_keeps 8 = .ok (.aload_n 0, 1) ∧ 8 + 1 = 9 := ⟨by decide +kernel, rfl⟩
theorem dX8_keeps_9 : decode cX8_keeps 9 = .ok (.getfield 73, 3) ∧ 9 + 3 = 12 := ⟨by decide +kernel, rfl⟩
theorem dX8_keeps_12 : decode cX8_keeps 12 = .ok (.iload_n 1, 1) ∧ 12 + 1 = 13 := ⟨by decide +kernel, rfl⟩
theorem dX8_keeps_13 : decode cX8_keeps 13 = .ok (.aload_n 0, 1) ∧ 13 + 1 = 14 := ⟨by decide +kernel, rfl⟩
theorem dX8_keeps_14 : decode cX8_keeps 14 = .ok (.getfield 19, 3) ∧ 14 + 3 = 17 := ⟨by decide +kernel, rfl⟩
theorem dX8_keeps_17 : decode cX8_keeps 17 = .ok (.iload_n 1, 1) ∧ 17 + 1 = 18 := ⟨by decide +kernel, rfl⟩
theorem dX8_keeps_18 : decode cX8_keeps 18 = .ok (.iaload, 1) ∧ 18 + 1 = 19 := ⟨by decide +kernel, rfl⟩
theorem dX8_keeps_19 : decode cX8_keeps 19 = .ok (.iastore, 1) ∧ 19 + 1 = 20 := ⟨by decide +kernel, rfl⟩
theorem dX8_keeps_20 : decode cX8_keeps 20 = .ok (.aload_n 0, 1) ∧ 20 + 1 = 21 := ⟨by decide +kernel, rfl⟩
theorem dX8_keeps_21 : decode cX8_keeps 21 = .ok (.getfield 73, 3) ∧ 21 + 3 = 24 := ⟨by decide +kernel, rfl⟩
theorem dX8_keeps_24 : decode cX8_keeps 24 = .ok (.bipush 10, 2) ∧ 24 + 2 = 26 := ⟨by decide +kernel, rfl⟩
theorem dX8_keeps_26 : decode cX8_keeps 26 = .ok (.iload_n 1, 1) ∧ 26 + 1 = 27 := ⟨by decide +kernel, rfl⟩
theorem dX8_keeps_27 : decode cX8_keeps 27 = .ok (.iadd, 1) ∧ 27 + 1 = 28 := ⟨by decide +kernel, rfl⟩
theorem dX8_keeps_28 : decode cX8_keeps 28 = .ok (.aload_n 0, 1) ∧ 28 + 1 = 29 := ⟨by decide +kernel, rfl⟩
theorem dX8_keeps_29 : decode cX8_keeps 29 = .ok (.getfield 22, 3) ∧ 29 + 3 = 32 := ⟨by decide +kernel, rfl⟩
theorem dX8_keeps_32 : decode cX8_keeps 32 = .ok (.iload_n 1, 1) ∧ 32 + 1 = 33 := ⟨by decide +kernel, rfl⟩
theorem dX8_keeps_33 : decode cX8_keeps 33 = .ok (.iaload, 1) ∧ 33 + 1 = 34 := ⟨by decide +kernel, rfl⟩
theorem dX8_keeps_34 : decode cX8_keeps 34 = .ok (.iastore, 1) ∧ 34 + 1 = 35 := ⟨by decide +kernel, rfl⟩
theorem dX8_keeps_35 : decode cX8_keeps 35 = .ok (.aload_n 0, 1) ∧ 35 + 1 = 36 := ⟨by decide +kernel, rfl⟩
theorem dX8_keeps_36 : decode cX8_keeps 36 = .ok (.getfield 73, 3) ∧ 36 + 3 = 39 := ⟨by decide +kernel, rfl⟩
theorem dX8_keeps_39 : decode cX8_keeps 39 = .ok (.bipush 20, 2) ∧ 39 + 2 = 41 := ⟨by decide +kernel, rfl⟩
theorem dX8_keeps_41 : decode cX8_keeps 41 = .ok (.iload_n 1, 1) ∧ 41 + 1 = 42 := ⟨by decide +kernel, rfl⟩
theorem dX8_keeps_42 : decode cX8_keeps 42 = .ok (.iadd, 1) ∧ 42 + 1 = 43 := ⟨by decide +kernel, rfl⟩
theorem dX8_keeps_43 : decode cX8_keeps 43 = .ok (.aload_n 0, 1) ∧ 43 + 1 = 44 := ⟨by decide +kernel, rfl⟩
theorem dX8_keeps_44 : decode cX8_keeps 44 = .ok (.getfield 25, 3) ∧ 44 + 3 = 47 := ⟨by decide +kernel, rfl⟩
theorem dX8_keeps_47 : decode cX8_keeps 47 = .ok (.iload_n 1, 1) ∧ 47 + 1 = 48 := ⟨by decide +kernel, rfl⟩
theorem dX8_keeps_48 : decode cX8_keeps 48 = .ok (.iaload, 1) ∧ 48 + 1 = 49 := ⟨by decide +kernel, rfl⟩
theorem dX8_keeps_49 : decode cX8_keeps 49 = .ok (.iastore, 1) ∧ 49 + 1 = 50 := ⟨by decide +kernel, rfl⟩
theorem dX8_keeps_50 : decode cX8_keeps 50 = .ok (.iinc 1 1, 3) ∧ 50 + 3 = 53 := ⟨by decide +kernel, rfl⟩
theorem dX8_keeps_53 : decode cX8_keeps 53 = .ok (.goto (-51), 3) ∧ ((53 : Nat) : Int) + (-51) = ((2 : Nat) : Int) := ⟨by decide +kernel, by decide⟩
theorem dX8_keeps_56 : decode cX8_keeps 56 = .ok (.aload_n 0, 1) ∧ 56 + 1 = 57 := ⟨by decide +kernel, rfl⟩
theorem dX8_keeps_57 : decode cX8_keeps 57 = .ok (.getfield 73, 3) ∧ 57 + 3 = 60 := ⟨by decide +kernel, rfl⟩
theorem dX8_keeps_60 : decode cX8_keeps 60 = .ok (.bipush 30, 2) ∧ 60 + 2 = 62 := ⟨by decide +kernel, rfl⟩
theorem dX8_keeps_62 : decode cX8_keeps 62 = .ok (.aload_n 0, 1) ∧ 62 + 1 = 63 := ⟨by decide +kernel, rfl⟩
theorem dX8_keeps_63 : decode cX8_keeps 63 = .ok (.getfield 91, 3) ∧ 63 + 3 = 66 := ⟨by decide +kernel, rfl⟩
theorem dX8_keeps_66 : decode cX8_keeps 66 = .ok (.iastore, 1) ∧ 66 + 1 = 67 := ⟨by decide +kernel, rfl⟩
theorem dX8_keeps_67 : decode cX8_keeps 67 = .ok (.return_, 1) := by decide +kernel
def L_X8_keeps_2 (k2 : Hp → Int32 → Option (Hp)) (fu : Nat) (o : Nat) (S : Hp) (x1 : Int32) : Option (Hp) :=
  if (10 : Int32) ≤ x1 then
    (gR S (some o) 6 35).bind fun v57 =>
    (gI S (some o) 6 7).bind fun v63 =>
    (aP S v57 (30 : Int32) v63).bind fun S66 =>
    some S66
  else
    (gR S (some o) 6 35).bind fun v9 =>
    (gR S (some o) 6 4).bind fun v14 =>
    (aG S v14 x1).bind fun v18 =>
    (aP S v9 x1 v18).bind fun S19 =>
    (gR S19 (some o) 6 35).bind fun v21 =>
    (gR S19 (some o) 6 5).bind fun v29 =>
    (aG S19 v29 x1).bind fun v33 =>
    (aP S19 v21 ((10 : Int32) + x1) v33).bind fun S34 =>
    (gR S34 (some o) 6 35).bind fun v36 =>
    (gR S34 (some o) 6 6).bind fun v44 =>
    (aG S34 v44 x1).bind fun v48 =>
    (aP S34 v36 ((20 : Int32) + x1) v48).bind fun S49 =>
    k2 S49 (x1 + (1 : Int32))
set_option maxRecDepth 100000 in
set_option maxHeartbeats 4000000 in
theorem wl_X8_keeps_2 {E : Cx} {l : Launch} {res : Hp} {ad : Nat → Nat} {k2 : Hp → Int32 → Option (Hp)} {fu : Nat} {o : Nat} {S : Hp} {x1 : Int32} (K : Kx E cX8_keeps RX8 (rmd 0 0 0)) (X : Bx E l yX8_keeps 2 none 0 0 ad (QV res)) (hk2 : ∀ (S : Hp) (x1 : Int32), k2 S x1 = some res → J E 0 0 2 [(0, vR (some o)), (1, vI x1)] [] S ad) (h : L_X8_keeps_2 k2 fu o S x1 = some res) : J E 0 0 2 [(0, vR (some o)), (1, vI x1)] [] S ad := by
  refine j_iload_n K dX8_keeps_2 rfl 1 rfl ?_
  refine j_bipush (v := (10 : Int32)) K dX8_keeps_3 (by decide) ?_
  refine j_icmp_ge K dX8_keeps_5 (fun c5 => ?_) (fun c5 => ?_)
  · replace h := it c5 h
    refine j_aload_n K dX8_keeps_56 rfl 0 rfl ?_
    obtain ⟨v57, e57, h⟩ := bd h
    refine fgX8_73 K dX8_keeps_57 e57 ?_
    refine j_bipush (v := (30 : Int32)) K dX8_keeps_60 (by decide) ?_
    refine j_aload_n K dX8_keeps_62 rfl 0 rfl ?_
    obtain ⟨v63, e63, h⟩ := bd h
    refine fgX8_91 K dX8_keeps_63 e63 ?_
    obtain ⟨S66, e66, h⟩ := bd h
    refine j_aP K dX8_keeps_66 e66 ?_
    exact j_vret K X dX8_keeps_67 h
  · replace h := ie c5 h
    refine j_aload_n K dX8_keeps_8 rfl 0 rfl ?_
    obtain ⟨v9, e9, h⟩ := bd h
    refine fgX8_73 K dX8_keeps_9 e9 ?_
    refine j_iload_n K dX8_keeps_12 rfl 1 rfl ?_
    refine j_aload_n K dX8_keeps_13 rfl 0 rfl ?_
    obtain ⟨v14, e14, h⟩ := bd h
    refine fgX8_19 K dX8_keeps_14 e14 ?_
    refine j_iload_n K dX8_keeps_17 rfl 1 rfl ?_
    obtain ⟨v18, e18, h⟩ := bd h
    refine j_aG K dX8_keeps_18 e18 ?_
    obtain ⟨S19, e19, h⟩ := bd h
    refine j_aP K dX8_keeps_19 e19 ?_
    refine j_aload_n K dX8_keeps_20 rfl 0 rfl ?_
    obtain ⟨v21, e21, h⟩ := bd h
    refine fgX8_73 K dX8_keeps_21 e21 ?_
    refine j_bipush (v := (10 : Int32)) K dX8_keeps_24 (by decide) ?_
    refine j_iload_n K dX8_keeps_26 rfl 1 rfl ?_
    refine j_iadd K dX8_keeps_27 ?_
    refine j_aload_n K dX8_keeps_28 rfl 0 rfl ?_
    obtain ⟨v29, e29, h⟩ := bd h
    refine fgX8_22 K dX8_keeps_29 e29 ?_
    refine j_iload_n K dX8_keeps_32 rfl 1 rfl ?_
    obtain ⟨v33, e33, h⟩ := bd h
    refine j_aG K dX8_keeps_33 e33 ?_
    obtain ⟨S34, e34, h⟩ := bd h
    refine j_aP K dX8_keeps_34 e34 ?_
    refine j_aload_n K dX8_keeps_35 rfl 0 rfl ?_
    obtain ⟨v36, e36, h⟩ := bd h
    refine fgX8_73 K dX8_keeps_36 e36 ?_
    refine j_bipush (v := (20 : Int32)) K dX8_keeps_39 (by decide) ?_
    refine j_iload_n K dX8_keeps_41 rfl 1 rfl ?_
    refine j_iadd K dX8_keeps_42 ?_
    refine j_aload_n K dX8_keeps_43 rfl 0 rfl ?_
    obtain ⟨v44, e44, h⟩ := bd h
    refine fgX8_25 K dX8_keeps_44 e44 ?_
    refine j_iload_n K dX8_keeps_47 rfl 1 rfl ?_
    obtain ⟨v48, e48, h⟩ := bd h
    refine j_aG K dX8_keeps_48 e48 ?_
    obtain ⟨S49, e49, h⟩ := bd h
    refine j_aP K dX8_keeps_49 e49 ?_
    refine j_iinc (q := 1) (v := (x1 + (1 : Int32))) (lv' := [(1, vI (x1 + (1 : Int32))), (0, vR (some o))]) K dX8_keeps_50 rfl rfl X.2.2.1 (by decide) rfl ?_
    refine j_goto K dX8_keeps_53 ?_
    exact j_sub [1, 0] rfl (hk2 _ _ h)
def B_X8_keeps_2 (fu : Nat) (o : Nat) : Nat → Hp → Int32 → Option (Hp)
  | 0 => fun _ _ => none
  | n + 1 => L_X8_keeps_2 (B_X8_keeps_2 fu o n) fu o
theorem w_X8_keeps_2 {E : Cx} {l : Launch} {res : Hp} {ad : Nat → Nat} {fu : Nat} {o : Nat} (K : Kx E cX8_keeps RX8 (rmd 0 0 0)) (X : Bx E l yX8_keeps 2 none 0 0 ad (QV res)) : ∀ (n : Nat) (S : Hp) (x1 : Int32), B_X8_keeps_2 fu o n S x1 = some res → J E 0 0 2 [(0, vR (some o)), (1, vI x1)] [] S ad := by
  intro n
  induction n with
  | zero =>
    intro S x1 h
    cases h
  | succ n ih =>
    intro S x1 h
    exact wl_X8_keeps_2 K X ih h
def F_X8_keeps (fu : Nat) (S : Hp) (o : Nat) : Option (Hp) :=
  B_X8_keeps_2 fu o fu S (0 : Int32)
set_option maxRecDepth 100000 in
set_option maxHeartbeats 4000000 in
theorem w_X8_keeps {E : Cx} {l : Launch} {res : Hp} {ad : Nat → Nat} {fu : Nat} {S : Hp} {o : Nat} (K : Kx E cX8_keeps RX8 (rmd 0 0 0)) (X : Bx E l yX8_keeps 2 none 0 0 ad (QV res)) (h : F_X8_keeps fu S o = some res) : J E 0 0 0 [(0, vR (some o))] [] S ad := by
  refine j_iconst (v := (0 : Int32)) K dX8_keeps_0 (by decide) ?_
  refine j_istore_n (lv' := [(1, vI (0 : Int32)), (0, vR (some o))]) K dX8_keeps_1 rfl X.2.2.1 (by decide) rfl ?_
  exact j_sub [1, 0] rfl (w_X8_keeps_2 K X _ _ _ h)
theorem c_X8_keeps {l : Launch} {fu : Nat} {S : Hp} {o : Nat} {res : Hp} (h : F_X8_keeps fu S o = some res) : Ct l yX8_keeps cX8_keeps 2 none (rmd 0 0 0) 0 0 [vR (some o)] S (QV res) :=
  z_entry (by decide +kernel) (Nat.le_of_ble_eq_true rfl) (fun E ad K X => w_X8_keeps K X h)

theorem dX8_lays_0 : decode cX8_lays 0 = .ok (.iconst 0, 1) ∧ 0 + 1 = 1 := ⟨by decide +kernel, rfl⟩
theorem dX8_lays_1 : decode cX8_lays 1 = .ok (.istore_n 1, 1) ∧ 1 + 1 = 2 := ⟨by decide +kernel, rfl⟩
theorem dX8_lays_2 : decode cX8_lays 2 = .ok (.iload_n 1, 1) ∧ 2 + 1 = 3 := ⟨by decide +kernel, rfl⟩
theorem dX8_lays_3 : decode cX8_lays 3 = .ok (.bipush 10, 2) ∧ 3 + 2 = 5 := ⟨by decide +kernel, rfl⟩
theorem dX8_lays_5 : decode cX8_lays 5 = .ok (.if_icmp .ge 51, 3) ∧ 5 + 3 = 8 ∧ ((5 : Nat) : Int) + (51) = ((56 : Nat) : Int) := ⟨by decide +kernel, rfl, by decide⟩
theorem dX8_lays_8 : decode cX8_lays 8 = .ok (.aload_n 0, 1) ∧ 8 + 1 = 9 := ⟨by decide +kernel, rfl⟩
theorem dX8_lays_9 : decode cX8_lays 9 = .ok (.getfield 19, 3) ∧ 9 + 3 = 12 := ⟨by decide +kernel, rfl⟩
theorem dX8_lays_12 : decode cX8_lays 12 = .ok (.iload_n 1, 1) ∧ 12 + 1 = 13 := ⟨by decide +kernel, rfl⟩
theorem dX8_lays_13 : decode cX8_lays 13 = .ok (.aload_n 0, 1) ∧ 13 + 1 = 14 := ⟨by decide +kernel, rfl⟩
theorem dX8_lays_14 : decode cX8_lays 14 = .ok (.getfield 73, 3) ∧ 14 + 3 = 17 := ⟨by decide +kernel, rfl⟩
theorem dX8_lays_17 : decode cX8_lays 17 = .ok (.iload_n 1, 1) ∧ 17 + 1 = 18 := ⟨by decide +kernel, rfl⟩
theorem dX8_lays_18 : decode cX8_lays 18 = .ok (.iaload, 1) ∧ 18 + 1 = 19 := ⟨by decide +kernel, rfl⟩
theorem dX8_lays_19 : decode cX8_lays 19 = .ok (.iastore, 1) ∧ 19 + 1 = 20 := ⟨by decide +kernel, rfl⟩
theorem dX8_lays_20 : decode cX8_lays 20 = .ok (.aload_n 0, 1) ∧ 20 + 1 = 21 := ⟨by decide +kernel, rfl⟩
theorem dX8_lays_21 : decode cX8_lays 21 = .ok (.getfield 22, 3) ∧ 21 + 3 = 24 := ⟨by decide +kernel, rfl⟩
theorem dX8_lays_24 : decode cX8_lays 24 = .ok (.iload_n 1, 1) ∧ 24 + 1 = 25 := ⟨by decide +kernel, rfl⟩
theorem dX8_lays_25 : decode cX8_lays 25 = .ok (.aload_n 0, 1) ∧ 25 + 1 = 26 := ⟨by decide +kernel, rfl⟩
theorem dX8_lays_26 : decode cX8_lays 26 = .ok (.getfield 73, 3) ∧ 26 + 3 = 29 := ⟨by decide +kernel, rfl⟩
theorem dX8_lays_29 : decode cX8_lays 29 = .ok (.bipush 10, 2) ∧ 29 + 2 = 31 := ⟨by decide +kernel, rfl⟩
theorem dX8_lays_31 : decode cX8_lays 31 = .ok (.iload_n 1, 1) ∧ 31 + 1 = 32 := ⟨by decide +kernel, rfl⟩
theorem dX8_lays_32 : decode cX8_lays 32 = .ok (.iadd, 1) ∧ 32 + 1 = 33 := ⟨by decide +kernel, rfl⟩
theorem dX8_lays_33 : decode cX8_lays 33 = .ok (.iaload, 1) ∧ 33 + 1 = 34 := ⟨by decide +kernel, rfl⟩
theorem dX8_lays_34 : decode cX8_lays 34 = .ok (.iastore, 1) ∧ 34 + 1 = 35 := ⟨by decide +kernel, rfl⟩
theorem dX8_lays_35 : decode cX8_lays 35 = .ok (.aload_n 0, 1) ∧ 35 + 1 = 36 := ⟨by decide +kernel, rfl⟩
theorem dX8_lays_36 : decode cX8_lays 36 = .ok (.getfield 25, 3) ∧ 36 + 3 = 39 := ⟨by decide +kernel, rfl⟩
theorem dX8_lays_39 : decode cX8_lays 39 = .ok (.iload_n 1, 1) ∧ 39 + 1 = 40 := ⟨by decide +kernel, rfl⟩
theorem dX8_lays_40 : decode cX8_lays 40 = .ok (.aload_n 0, 1) ∧ 40 + 1 = 41 := ⟨by decide +kernel, rfl⟩
theorem dX8_lays_41 : decode cX8_lays 41 = .ok (.getfield 73, 3) ∧ 41 + 3 = 44 := ⟨by decide +kernel, rfl⟩
theorem dX8_lays_44 : decode cX8_lays 44 = .ok (.bipush 20, 2) ∧ 44 + 2 = 46 := ⟨by decide +kernel, rfl⟩
theorem dX8_lays_46 : decode cX8_lays 46 = .ok (.iload_n 1, 1) ∧ 46 + 1 = 47 := ⟨by decide +kernel, rfl⟩
theorem dX8_lays_47 : decode cX8_lays 47 = .ok (.iadd, 1) ∧ 47 + 1 = 48 := ⟨by decide +kernel, rfl⟩
theorem dX8_lays_48 : decode cX8_lays 48 = .ok (.iaload, 1) ∧ 48 + 1 = 49 := ⟨by decide +kernel, rfl⟩
theorem dX8_lays_49 : decode cX8_lays 49 = .ok (.iastore, 1) ∧ 49 + 1 = 50 := ⟨by decide +kernel, rfl⟩
theorem dX8_lays_50 : decode cX8_lays 50 = .ok (.iinc 1 1, 3) ∧ 50 + 3 = 53 := ⟨by decide +kernel, rfl⟩
theorem dX8_lays_53 : decode cX8_lays 53 = .ok (.goto (-51), 3) ∧ ((53 : Nat) : Int) + (-51) = ((2 : Nat) : Int) := ⟨by decide +kernel, by decide⟩
theorem dX8_lays_56 : decode cX8_lays 56 = .ok (.aload_n 0, 1) ∧ 56 + 1 = 57 := ⟨by decide +kernel, rfl⟩
theorem dX8_lays_57 : decode cX8_lays 57 = .ok (.aload_n 0, 1) ∧ 57 + 1 = 58 := ⟨by decide +kernel, rfl⟩
theorem dX8_lays_58 : decode cX8_lays 58 = .ok (.getfield 73, 3) ∧ 58 + 3 = 61 := ⟨by decide +kernel, rfl⟩
theorem dX8_lays_61 : decode cX8_lays 61 = .ok (.bipush 30, 2) ∧ 61 + 2 = 63 := ⟨by decide +kernel, rfl⟩
theorem dX8_lays_63 : decode cX8_lays 63 = .ok (.iaload, 1) ∧ 63 + 1 = 64 := ⟨by decide +kernel, rfl⟩
theorem dX8_lays_64 : decode cX8_lays 64 = .ok (.putfield 91, 3) ∧ 64 + 3 = 67 := ⟨by decide +kernel, rfl⟩
theorem dX8_lays_67 : decode cX8_lays 67 = .ok (.return_, 1) := by decide +kernel
def L_X8_lays_2 (k2 : Hp → Int32 → Option (Hp)) (fu : Nat) (o : Nat) (S : Hp) (x1 : Int32) : Option (Hp) :=
  if (10 : Int32) ≤ x1 then
    (gR S (some o) 6 35).bind fun v58 =>
    (aG S v58 (30 : Int32)).bind fun v63 =>
    (pI S (some o) 6 7 v63).bind fun S64 =>
    some S64
  else
    (gR S (some o) 6 4).bind fun v9 =>
    (gR S (some o) 6 35).bind fun v14 =>
    (aG S v14 x1).bind fun v18 =>
    (aP S v9 x1 v18).bind fun S19 =>
    (gR S19 (some o) 6 5).bind fun v21 =>
    (gR S19 (some o) 6 35).bind fun v26 =>
    (aG S19 v26 ((10 : Int32) + x1)).bind fun v33 =>
    (aP S19 v21 x1 v33).bind fun S34 =>
    (gR S34 (some o) 6 6).bind fun v36 =>
    (gR S34 (some o) 6 35).bind fun v41 =>
    (aG S34 v41 ((20 : Int32) + x1)).bind fun v48 =>
    (aP S34 v36 x1 v48).bind fun S49 =>
    k2 S49 (x1 + (1 : Int32))
set_option maxRecDepth 100000 in
set_option maxHeartbeats 4000000 in
theorem wl_X8_lays_2 {E : Cx} {l : Launch} {res : Hp} {ad : Nat → Nat} {k2 : Hp → Int32 → Option (Hp)} {fu : Nat} {o : Nat} {S : Hp} {x1 : Int32} (K : Kx E cX8_lays RX8 (rmd 0 0 0)) (X : Bx E l yX8_lays 2 none 0 0 ad (QV res)) (hk2 : ∀ (S : Hp) (x1 : Int32), k2 S x1 = some res → J E 0 0 2 [(0, vR (some o)), (1, vI x1)] [] S ad) (h : L_X8_lays_2 k2 fu o S x1 = some res) : J E 0 0 2 [(0, vR (some o)), (1, vI x1)] [] S ad := by
  refine j_iload_n K dX8_lays_2 rfl 1 rfl ?_
  refine j_bipush (v := (10 : Int32)) K dX8_lays_3 (by decide) ?_
  refine j_icmp_ge K dX8_lays_5 (fun c5 => ?_) (fun c5 => ?_)
  · replace h := it c5 h
    refine j_aload_n K dX8_lays_56 rfl 0 rfl ?_
    refine j_aload_n K dX8_lays_57 rfl 0 rfl ?_
    obtain ⟨v58, e58, h⟩ := bd h
    refine fgX8_73 K dX8_lays_58 e58 ?_
    refine j_bipush (v := (30 : Int32)) K dX8_lays_61 (by decide) ?_
    obtain ⟨v63, e63, h⟩ := bd h
    refine j_aG K dX8_lays_63 e63 ?_
    obtain ⟨S64, e64, h⟩ := bd h
    refine fpX8_91 K dX8_lays_64 e64 ?_
    exact j_vret K X dX8_lays_67 h
  · replace h := ie c5 h
    refine j_aload_n K dX8_lays_8 rfl 0 rfl ?_
    obtain ⟨v9, e9, h⟩ := bd h
    refine fgX8_19 K dX8_lays_9 e9 ?_
    refine j_iload_n K dX8_lays_12 rfl 1 rfl ?_
    refine j_aload_n K dX8_lays_13 rfl 0 rfl ?_
    obtain ⟨v14, e14, h⟩ := bd h
    refine fgX8_73 K dX8_lays_14 e14 ?_
    refine j_iload_n K dX8_lays_17 rfl 1 rfl ?_
    obtain ⟨v18, e18, h⟩ := bd h
    refine j_aG K dX8_lays_18 e18 ?_
    obtain ⟨S19, e19, h⟩ := bd h
    refine j_aP K dX8_lays_19 e19 ?_
    refine j_aload_n K dX8_lays_20 rfl 0 rfl ?_
    obtain ⟨v21, e21, h⟩ := bd h
    refine fgX8_22 K dX8_lays_21 e21 ?_
    refine j_iload_n K dX8_lays_24 rfl 1 rfl ?_
    refine j_aload_n K dX8_lays_25 rfl 0 rfl ?_
    obtain ⟨v26, e26, h⟩ := bd h
    refine fgX8_73 K dX8_lays_26 e26 ?_
    refine j_bipush (v := (10 : Int32)) K dX8_lays_29 (by decide) ?_
    refine j_iload_n K dX8_lays_31 rfl 1 rfl ?_
    refine j_iadd K dX8_lays_32 ?_
    obtain ⟨v33, e33, h⟩ := bd h
    refine j_aG K dX8_lays_33 e33 ?_
    obtain ⟨S34, e34, h⟩ := bd h
    refine j_aP K dX8_lays_34 e34 ?_
    refine j_aload_n K dX8_lays_35 rfl 0 rfl ?_
    obtain ⟨v36, e36, h⟩ := bd h
    refine fgX8_25 K dX8_lays_36 e36 ?_
    refine j_iload_n K dX8_lays_39 rfl 1 rfl ?_
    refine j_aload_n K dX8_lays_40 rfl 0 rfl ?_
    obtain ⟨v41, e41, h⟩ := bd h
    refine fgX8_73 K dX8_lays_41 e41 ?_
    refine j_bipush (v := (20 : Int32)) K dX8_lays_44 (by decide) ?_
    refine j_iload_n K dX8_lays_46 rfl 1 rfl ?_
    refine j_iadd K dX8_lays_47 ?_
    obtain ⟨v48, e48, h⟩ := bd h
    refine j_aG K dX8_lays_48 e48 ?_
    obtain ⟨S49, e49, h⟩ := bd h
    refine j_aP K dX8_lays_49 e49 ?_
    refine j_iinc (q := 1) (v := (x1 + (1 : Int32))) (lv' := [(1, vI (x1 + (1 : Int32))), (0, vR (some o))]) K dX8_lays_50 rfl rfl X.2.2.1 (by decide) rfl ?_
    refine j_goto K dX8_lays_53 ?_
    exact j_sub [1, 0] rfl (hk2 _ _ h)
def B_X8_lays_2 (fu : Nat) (o : Nat) : Nat → Hp → Int32 → Option (Hp)
  | 0 => fun _ _ => none
  | n + 1 => L_X8_lays_2 (B_X8_lays_2 fu o n) fu o
theorem w_X8_lays_2 {E : Cx} {l : Launch} {res : Hp} {ad : Nat → Nat} {fu : Nat} {o : Nat} (K : Kx E cX8_lays RX8 (rmd 0 0 0)) (X : Bx E l yX8_lays 2 none 0 0 ad (QV res)) : ∀ (n : Nat) (S : Hp) (x1 : Int32), B_X8_lays_2 fu o n S x1 = some res → J E 0 0 2 [(0, vR (some o)), (1, vI x1)] [] S ad := by
  intro n
  induction n with
  | zero =>
    intro S x1 h
    cases h
  | succ n ih =>
    intro S x1 h
    exact wl_X8_lays_2 K X ih h
def F_X8_lays (fu : Nat) (S : Hp) (o : Nat) : Option (Hp) :=
  B_X8_lays_2 fu o fu S (0 : Int32)
set_option maxRecDepth 100000 in
set_option maxHeartbeats 4000000 in
theorem w_X8_lays {E : Cx} {l : Launch} {res : Hp} {ad : Nat → Nat} {fu : Nat} {S : Hp} {o : Nat} (K : Kx E cX8_lays RX8 (rmd 0 0 0)) (X : Bx E l yX8_lays 2 none 0 0 ad (QV res)) (h : F_X8_lays fu S o = some res) : J E 0 0 0 [(0, vR (some o))] [] S ad := by
  refine j_iconst (v := (0 : Int32)) K dX8_lays_0 (by decide) ?_
  refine j_istore_n (lv' := [(1, vI (0 : Int32)), (0, vR (some o))]) K dX8_lays_1 rfl X.2.2.1 (by decide) rfl ?_
  exact j_sub [1, 0] rfl (w_X8_lays_2 K X _ _ _ h)
theorem c_X8_lays {l : Launch} {fu : Nat} {S : Hp} {o : Nat} {res : Hp} (h : F_X8_lays fu S o = some res) : Ct l yX8_lays cX8_lays 2 none (rmd 0 0 0) 0 0 [vR (some o)] S (QV res) :=
  z_entry (by decide +kernel) (Nat.le_of_ble_eq_true rfl) (fun E ad K X => w_X8_lays K X h)
