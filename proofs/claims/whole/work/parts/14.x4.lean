theorem dX7_dusk_0 : decode cX7_dusk 0 = .ok (.aload_n 0, 1) ∧ 0 + 1 = 1 := ⟨by decide +kernel, rfl⟩
theorem dX7_dusk_1 : decode cX7_dusk 1 = .ok (.getfield 10, 3) ∧ 1 + 3 = 4 := ⟨by decide +kernel, rfl⟩
theorem dX7_dusk_4 : decode cX7_dusk 4 = .ok (.iload_n 1, 1) ∧ 4 + 1 = 5 := ⟨by decide +kernel, rfl⟩
theorem dX7_dusk_5 : decode cX7_dusk 5 = .ok (.invokevirtual 143, 3) := by decide +kernel
theorem dX7_dusk_8 : decode cX7_dusk 8 = .ok (.ifCond .ne 6, 3) ∧ 8 + 3 = 11 ∧ ((8 : Nat) : Int) + (6) = ((14 : Nat) : Int) := ⟨by decide +kernel, rfl, by decide⟩
theorem dX7_dusk_11 : decode cX7_dusk 11 = .ok (.bipush (-5), 2) ∧ 11 + 2 = 13 := ⟨by decide +kernel, rfl⟩
theorem dX7_dusk_13 : decode cX7_dusk 13 = .ok (.ireturn, 1) := by decide +kernel
theorem dX7_dusk_14 : decode cX7_dusk 14 = .ok (.aload_n 0, 1) ∧ 14 + 1 = 15 := ⟨by decide +kernel, rfl⟩
theorem dX7_dusk_15 : decode cX7_dusk 15 = .ok (.getfield 10, 3) ∧ 15 + 3 = 18 := ⟨by decide +kernel, rfl⟩
theorem dX7_dusk_18 : decode cX7_dusk 18 = .ok (.iload_n 1, 1) ∧ 18 + 1 = 19 := ⟨by decide +kernel, rfl⟩
theorem dX7_dusk_19 : decode cX7_dusk 19 = .ok (.invokevirtual 183, 3) := by decide +kernel
theorem dX7_dusk_22 : decode cX7_dusk 22 = .ok (.istore_n 3, 1) ∧ 22 + 1 = 23 := ⟨by decide +kernel, rfl⟩
theorem dX7_dusk_23 : decode cX7_dusk 23 = .ok (.aload_n 0, 1) ∧ 23 + 1 = 24 := ⟨by decide +kernel, rfl⟩
theorem dX7_dusk_24 : decode cX7_dusk 24 = .ok (.getfield 10, 3) ∧ 24 + 3 = 27 := ⟨by decide +kernel, rfl⟩
theorem dX7_dusk_27 : decode cX7_dusk 27 = .ok (.iload_n 1, 1) ∧ 27 + 1 = 28 := ⟨by decide +kernel, rfl⟩
theorem dX7_dusk_28 : decode cX7_dusk 28 = .ok (.invokevirtual 186, 3) := by decide +kernel
theorem dX7_dusk_31 : decode cX7_dusk 31 = .ok (.iload_n 2, 1) ∧ 31 + 1 = 32 := ⟨by decide +kernel, rfl⟩
theorem dX7_dusk_32 : decode cX7_dusk 32 = .ok (.tableswitch 62 0 3 #[32, 34, 43, 52], 32) := by decide +kernel
theorem dX7_dusk_64 : decode cX7_dusk 64 = .ok (.iload_n 3, 1) ∧ 64 + 1 = 65 := ⟨by decide +kernel, rfl⟩
theorem dX7_dusk_65 : decode cX7_dusk 65 = .ok (.ireturn, 1) := by decide +kernel
theorem dX7_dusk_66 : decode cX7_dusk 66 = .ok (.aload_n 0, 1) ∧ 66 + 1 = 67 := ⟨by decide +kernel, rfl⟩
theorem dX7_dusk_67 : decode cX7_dusk 67 = .ok (.getfield 10, 3) ∧ 67 + 3 = 70 := ⟨by decide +kernel, rfl⟩
theorem dX7_dusk_70 : decode cX7_dusk 70 = .ok (.iload_n 3, 1) ∧ 70 + 1 = 71 := ⟨by decide +kernel, rfl⟩
theorem dX7_dusk_71 : decode cX7_dusk 71 = .ok (.invokevirtual 189, 3) := by decide +kernel
theorem dX7_dusk_74 : decode cX7_dusk 74 = .ok (.ireturn, 1) := by decide +kernel
theorem dX7_dusk_75 : decode cX7_dusk 75 = .ok (.aload_n 0, 1) ∧ 75 + 1 = 76 := ⟨by decide +kernel, rfl⟩
theorem dX7_dusk_76 : decode cX7_dusk 76 = .ok (.getfield 10, 3) ∧ 76 + 3 = 79 := ⟨by decide +kernel, rfl⟩
theorem dX7_dusk_79 : decode cX7_dusk 79 = .ok (.iload_n 3, 1) ∧ 79 + 1 = 80 := ⟨by decide +kernel, rfl⟩
theorem dX7_dusk_80 : decode cX7_dusk 80 = .ok (.invokevirtual 192, 3) := by decide +kernel
theorem dX7_dusk_83 : decode cX7_dusk 83 = .ok (.ireturn, 1) := by decide +kernel
theorem dX7_dusk_84 : decode cX7_dusk 84 = .ok (.aload_n 0, 1) ∧ 84 + 1 = 85 := ⟨by decide +kernel, rfl⟩
theorem dX7_dusk_85 : decode cX7_dusk 85 = .ok (.getfield 10, 3) ∧ 85 + 3 = 88 := ⟨by decide +kernel, rfl⟩
theorem dX7_dusk_88 : decode cX7_dusk 88 = .ok (.iload_n 1, 1) ∧ 88 + 1 = 89 := ⟨by decide +kernel, rfl⟩
theorem dX7_dusk_89 : decode cX7_dusk 89 = .ok (.iload_n 3, 1) ∧ 89 + 1 = 90 := ⟨by decide +kernel, rfl⟩
theorem dX7_dusk_90 : decode cX7_dusk 90 = .ok (.invokevirtual 195, 3) := by decide +kernel
theorem dX7_dusk_93 : decode cX7_dusk 93 = .ok (.ireturn, 1) := by decide +kernel
theorem dX7_dusk_94 : decode cX7_dusk 94 = .ok (.bipush (-7), 2) ∧ 94 + 2 = 96 := ⟨by decide +kernel, rfl⟩
theorem dX7_dusk_96 : decode cX7_dusk 96 = .ok (.ireturn, 1) := by decide +kernel
def F_X7_dusk (fu : Nat) (S : Hp) (o : Nat) (x1 : Int32) (x2 : Int32) : Option (Int32 × Hp) :=
  (gR S (some o) 5 0).bind fun v1 =>
  (ob S 0 v1).bind fun o5 =>
  b2 (F_X0_hasPerson S o5 x1) fun v5 S5 =>
  if v5 = 0 then
    some ((-5 : Int32), S5)
  else
    (gR S5 (some o) 5 0).bind fun v15 =>
    (ob S5 0 v15).bind fun o19 =>
    b2 (F_X0_beats fu S5 o19 x1) fun v19 S19 =>
    (gR S19 (some o) 5 0).bind fun v24 =>
    (ob S19 0 v24).bind fun o28 =>
    (F_X0_look fu S19 o28 x1).bind fun S28 =>
    if x2 = 0 then
      some (v19, S28)
    else
    if x2 = 1 then
      (gR S28 (some o) 5 0).bind fun v67 =>
      (ob S28 0 v67).bind fun o71 =>
      b2 (F_X0_catchersAt fu S28 o71 v19) fun v71 S71 =>
      some (v71, S71)
    else
    if x2 = 2 then
      (gR S28 (some o) 5 0).bind fun v76 =>
      (ob S28 0 v76).bind fun o80 =>
      b2 (F_X0_lossAt fu S28 o80 v19) fun v80 S80 =>
      some (v80, S80)
    else
    if x2 = 3 then
      (gR S28 (some o) 5 0).bind fun v85 =>
      (ob S28 0 v85).bind fun o90 =>
      b2 (F_X0_thoughtAt fu S28 o90 x1 v19) fun v90 S90 =>
      some (v90, S90)
    else
    some ((-7 : Int32), S28)
set_option maxRecDepth 100000 in
set_option maxHeartbeats 4000000 in
theorem w_X7_dusk {E : Cx} {l : Launch} {res : Int32 × Hp} {ad : Nat → Nat} {fu : Nat} {S : Hp} {o : Nat} {x1 : Int32} {x2 : Int32} (K : Kx E cX7_dusk RX7 (rmd 5 0 0)) (X : Bx E l yX7_dusk 4 (some .int) 0 0 ad (QI res)) (h : F_X7_dusk fu S o x1 x2 = some res) : J E 0 0 0 [(0, vR (some o)), (1, vI x1), (2, vI x2)] [] S ad := by
  refine j_aload_n K dX7_dusk_0 rfl 0 rfl ?_
  obtain ⟨v1, e1, h⟩ := bd h
  refine fgX7_10 K dX7_dusk_1 e1 ?_
  refine j_iload_n K dX7_dusk_4 rfl 1 rfl ?_
  obtain ⟨o5, ew5, hz5⟩ := bd h
  obtain ⟨er5, ho5⟩ := ob_some ew5
  subst er5
  have h := hz5
  obtain ⟨v5, S5, e5, h⟩ := bd2 h
  refine j_cI (st := []) K (r_V (vs := [vI x1]) (n := 1) (o := o5) K (c_X0_hasPerson e5) ho5 (by decide) rfl dX7_dusk_5 z461 z462 z463 z2 z464 ⟨zd_X0_hasPerson, rfl, rfl, rfl, ⟨Nat.le_of_ble_eq_true rfl, Nat.le_of_ble_eq_true rfl⟩, Nat.le_of_ble_eq_true rfl, Nat.le_of_ble_eq_true rfl, Nat.le_of_ble_eq_true rfl⟩) rfl ?_
  refine j_if_ne K dX7_dusk_8 (fun c8 => ?_) (fun c8 => ?_)
  · replace h := ie c8 h
    refine j_aload_n K dX7_dusk_14 rfl 0 rfl ?_
    obtain ⟨v15, e15, h⟩ := bd h
    refine fgX7_10 K dX7_dusk_15 e15 ?_
    refine j_iload_n K dX7_dusk_18 rfl 1 rfl ?_
    obtain ⟨o19, ew19, hz19⟩ := bd h
    obtain ⟨er19, ho19⟩ := ob_some ew19
    subst er19
    have h := hz19
    obtain ⟨v19, S19, e19, h⟩ := bd2 h
    refine j_cI (st := []) K (r_V (vs := [vI x1]) (n := 1) (o := o19) K (c_X0_beats e19) ho19 (by decide) rfl dX7_dusk_19 z517 z518 z519 z2 z520 ⟨zd_X0_beats, rfl, rfl, rfl, ⟨Nat.le_of_ble_eq_true rfl, Nat.le_of_ble_eq_true rfl⟩, Nat.le_of_ble_eq_true rfl, Nat.le_of_ble_eq_true rfl, Nat.le_of_ble_eq_true rfl⟩) rfl ?_
    refine j_istore_n (lv' := [(3, vI v19), (0, vR (some o)), (1, vI x1), (2, vI x2)]) K dX7_dusk_22 rfl X.2.2.1 (by decide) rfl ?_
    refine j_aload_n K dX7_dusk_23 rfl 1 rfl ?_
    obtain ⟨v24, e24, h⟩ := bd h
    refine fgX7_10 K dX7_dusk_24 e24 ?_
    refine j_iload_n K dX7_dusk_27 rfl 2 rfl ?_
    obtain ⟨o28, ew28, hz28⟩ := bd h
    obtain ⟨er28, ho28⟩ := ob_some ew28
    subst er28
    have h := hz28
    obtain ⟨S28, e28, h⟩ := bd h
    refine j_cV (st := []) K (r_V (vs := [vI x1]) (n := 1) (o := o28) K (c_X0_look e28) ho28 (by decide) rfl dX7_dusk_28 z529 z530 z531 z2 z532 ⟨zd_X0_look, rfl, rfl, rfl, ⟨Nat.le_of_ble_eq_true rfl, Nat.le_of_ble_eq_true rfl⟩, Nat.le_of_ble_eq_true rfl, Nat.le_of_ble_eq_true rfl, Nat.le_of_ble_eq_true rfl⟩) rfl ?_
    refine j_iload_n K dX7_dusk_31 rfl 3 rfl ?_
    by_cases c32_0 : x2 = 0
    · replace h := it c32_0 h
      have t32 : x2.toInt = 0 := by rw [c32_0]; rfl
      refine j_tin (tgt := 64) K dX7_dusk_32 (by rw [t32]; decide) (by rw [t32]; decide) (by rw [t32]; rfl) (by decide) ?_
      refine j_iload_n K dX7_dusk_64 rfl 0 rfl ?_
      exact j_iret K X dX7_dusk_65 h
    replace h := ie c32_0 h
    by_cases c32_1 : x2 = 1
    · replace h := it c32_1 h
      have t32 : x2.toInt = 1 := by rw [c32_1]; rfl
      refine j_tin (tgt := 66) K dX7_dusk_32 (by rw [t32]; decide) (by rw [t32]; decide) (by rw [t32]; rfl) (by decide) ?_
      refine j_aload_n K dX7_dusk_66 rfl 1 rfl ?_
      obtain ⟨v67, e67, h⟩ := bd h
      refine fgX7_10 K dX7_dusk_67 e67 ?_
      refine j_iload_n K dX7_dusk_70 rfl 0 rfl ?_
      obtain ⟨o71, ew71, hz71⟩ := bd h
      obtain ⟨er71, ho71⟩ := ob_some ew71
      subst er71
      have h := hz71
      obtain ⟨v71, S71, e71, h⟩ := bd2 h
      refine j_cI (st := []) K (r_V (vs := [vI v19]) (n := 1) (o := o71) K (c_X0_catchersAt e71) ho71 (by decide) rfl dX7_dusk_71 z533 z534 z535 z2 z536 ⟨zd_X0_catchersAt, rfl, rfl, rfl, ⟨Nat.le_of_ble_eq_true rfl, Nat.le_of_ble_eq_true rfl⟩, Nat.le_of_ble_eq_true rfl, Nat.le_of_ble_eq_true rfl, Nat.le_of_ble_eq_true rfl⟩) rfl ?_
      exact j_iret K X dX7_dusk_74 h
    replace h := ie c32_1 h
    by_cases c32_2 : x2 = 2
    · replace h := it c32_2 h
      have t32 : x2.toInt = 2 := by rw [c32_2]; rfl
      refine j_tin (tgt := 75) K dX7_dusk_32 (by rw [t32]; decide) (by rw [t32]; decide) (by rw [t32]; rfl) (by decide) ?_
      refine j_aload_n K dX7_dusk_75 rfl 1 rfl ?_
      obtain ⟨v76, e76, h⟩ := bd h
      refine fgX7_10 K dX7_dusk_76 e76 ?_
      refine j_iload_n K dX7_dusk_79 rfl 0 rfl ?_
      obtain ⟨o80, ew80, hz80⟩ := bd h
      obtain ⟨er80, ho80⟩ := ob_some ew80
      subst er80
      have h := hz80
      obtain ⟨v80, S80, e80, h⟩ := bd2 h
      refine j_cI (st := []) K (r_V (vs := [vI v19]) (n := 1) (o := o80) K (c_X0_lossAt e80) ho80 (by decide) rfl dX7_dusk_80 z537 z538 z539 z2 z540 ⟨zd_X0_lossAt, rfl, rfl, rfl, ⟨Nat.le_of_ble_eq_true rfl, Nat.le_of_ble_eq_true rfl⟩, Nat.le_of_ble_eq_true rfl, Nat.le_of_ble_eq_true rfl, Nat.le_of_ble_eq_true rfl⟩) rfl ?_
      exact j_iret K X dX7_dusk_83 h
    replace h := ie c32_2 h
    by_cases c32_3 : x2 = 3
    · replace h := it c32_3 h
      have t32 : x2.toInt = 3 := by rw [c32_3]; rfl
      refine j_tin (tgt := 84) K dX7_dusk_32 (by rw [t32]; decide) (by rw [t32]; decide) (by rw [t32]; rfl) (by decide) ?_
      refine j_aload_n K dX7_dusk_84 rfl 1 rfl ?_
      obtain ⟨v85, e85, h⟩ := bd h
      refine fgX7_10 K dX7_dusk_85 e85 ?_
      refine j_iload_n K dX7_dusk_88 rfl 2 rfl ?_
      refine j_iload_n K dX7_dusk_89 rfl 0 rfl ?_
      obtain ⟨o90, ew90, hz90⟩ := bd h
      obtain ⟨er90, ho90⟩ := ob_some ew90
      subst er90
      have h := hz90
      obtain ⟨v90, S90, e90, h⟩ := bd2 h
      refine j_cI (st := []) K (r_V (vs := [vI x1, vI v19]) (n := 2) (o := o90) K (c_X0_thoughtAt e90) ho90 (by decide) rfl dX7_dusk_90 z544 z545 z546 z2 z547 ⟨zd_X0_thoughtAt, rfl, rfl, rfl, ⟨Nat.le_of_ble_eq_true rfl, Nat.le_of_ble_eq_true rfl⟩, Nat.le_of_ble_eq_true rfl, Nat.le_of_ble_eq_true rfl, Nat.le_of_ble_eq_true rfl⟩) rfl ?_
      exact j_iret K X dX7_dusk_93 h
    replace h := ie c32_3 h
    have t32_0 : x2.toInt ≠ 0 := swn rfl c32_0
    have t32_1 : x2.toInt ≠ 1 := swn rfl c32_1
    have t32_2 : x2.toInt ≠ 2 := swn rfl c32_2
    have t32_3 : x2.toInt ≠ 3 := swn rfl c32_3
    refine j_tout (tgt := 94) K dX7_dusk_32 (by omega) (by decide) ?_
    refine j_bipush (v := (-7 : Int32)) K dX7_dusk_94 (by decide) ?_
    exact j_iret K X dX7_dusk_96 h
  · replace h := it c8 h
    refine j_bipush (v := (-5 : Int32)) K dX7_dusk_11 (by decide) ?_
    exact j_iret K X dX7_dusk_13 h
theorem c_X7_dusk {l : Launch} {fu : Nat} {S : Hp} {o : Nat} {x1 : Int32} {x2 : Int32} {res : Int32 × Hp} (h : F_X7_dusk fu S o x1 x2 = some res) : Ct l yX7_dusk cX7_dusk 4 (some .int) (rmd 5 0 0) 0 0 [vR (some o), vI x1, vI x2] S (QI res) :=
  z_entry (by decide +kernel) (Nat.le_of_ble_eq_true rfl) (fun E ad K X => w_X7_dusk K X h)

theorem dX7_town_0 : decode cX7_town 0 = .ok (.iload_n 1, 1) ∧ 0 + 1 = 1 := ⟨by decide +kernel, rfl⟩
theorem dX7_town_1 : decode cX7_town 1 = .ok (.tableswitch 63 0 3 #[31, 39, 47, 55], 31) := by decide +kernel
theorem dX7_town_32 : decode cX7_town 32 = .ok (.aload_n 0, 1) ∧ 32 + 1 = 33 := ⟨by decide +kernel, rfl⟩
theorem dX7_town_33 : decode cX7_town 33 = .ok (.getfield 10, 3) ∧ 33 + 3 = 36 := ⟨by decide +kernel, rfl⟩
theorem dX7_town_36 : decode cX7_town 36 = .ok (.invokevirtual 199, 3) := by decide +kernel
theorem dX7_town_39 : decode cX7_town 39 = .ok (.ireturn, 1) := by decide +kernel
theorem dX7_town_40 : decode cX7_town 40 = .ok (.aload_n 0, 1) ∧ 40 + 1 = 41 := ⟨by decide +kernel, rfl⟩
theorem dX7_town_41 : decode cX7_town 41 = .ok (.getfield 10, 3) ∧ 41 + 3 = 44 := ⟨by decide +kernel, rfl⟩
theorem dX7_town_44 : decode cX7_town 44 = .ok (.invokevirtual 202, 3) := by decide +kernel
theorem dX7_town_47 : decode cX7_town 47 = .ok (.ireturn, 1) := by decide +kernel
theorem dX7_town_48 : decode cX7_town 48 = .ok (.aload_n 0, 1) ∧ 48 + 1 = 49 := ⟨by decide +kernel, rfl⟩
theorem dX7_town_49 : decode cX7_town 49 = .ok (.getfield 10, 3) ∧ 49 + 3 = 52 := ⟨by decide +kernel, rfl⟩
theorem dX7_town_52 : decode cX7_town 52 = .ok (.invokevirtual 205, 3) := by decide +kernel
theorem dX7_town_55 : decode cX7_town 55 = .ok (.ireturn, 1) := by decide +kernel
theorem dX7_town_56 : decode cX7_town 56 = .ok (.aload_n 0, 1) ∧ 56 + 1 = 57 := ⟨by decide +kernel, rfl⟩
theorem dX7_town_57 : decode cX7_town 57 = .ok (.getfield 10, 3) ∧ 57 + 3 = 60 := ⟨by decide +kernel, rfl⟩
theorem dX7_town_60 : decode cX7_town 60 = .ok (.invokevirtual 208, 3) := by decide +kernel
theorem dX7_town_63 : decode cX7_town 63 = .ok (.ireturn, 1) := by decide +kernel
theorem dX7_town_64 : decode cX7_town 64 = .ok (.bipush (-2), 2) ∧ 64 + 2 = 66 := ⟨by decide +kernel, rfl⟩
theorem dX7_town_66 : decode cX7_town 66 = .ok (.ireturn, 1) := by decide +kernel
def F_X7_town (fu : Nat) (S : Hp) (o : Nat) (x1 : Int32) : Option (Int32 × Hp) :=
  if x1 = 0 then
    (gR S (some o) 5 0).bind fun v33 =>
    (ob S 0 v33).bind fun o36 =>
    b2 (F_X0_beatsOfAll fu S o36) fun v36 S36 =>
    some (v36, S36)
  else
  if x1 = 1 then
    (gR S (some o) 5 0).bind fun v41 =>
    (ob S 0 v41).bind fun o44 =>
    b2 (F_X0_loudest fu S o44) fun v44 S44 =>
    some (v44, S44)
  else
  if x1 = 2 then
    (gR S (some o) 5 0).bind fun v49 =>
    (ob S 0 v49).bind fun o52 =>
    b2 (F_X0_silent fu S o52) fun v52 S52 =>
    some (v52, S52)
  else
  if x1 = 3 then
    (gR S (some o) 5 0).bind fun v57 =>
    (ob S 0 v57).bind fun o60 =>
    b2 (F_X0_catchersOfAnybody fu S o60) fun v60 S60 =>
    some (v60, S60)
  else
  some ((-2 : Int32), S)
set_option maxRecDepth 100000 in
set_option maxHeartbeats 4000000 in
theorem w_X7_town {E : Cx} {l : Launch} {res : Int32 × Hp} {ad : Nat → Nat} {fu : Nat} {S : Hp} {o : Nat} {x1 : Int32} (K : Kx E cX7_town RX7 (rmd 6 0 0)) (X : Bx E l yX7_town 2 (some .int) 0 0 ad (QI res)) (h : F_X7_town fu S o x1 = some res) : J E 0 0 0 [(0, vR (some o)), (1, vI x1)] [] S ad := by
  refine j_iload_n K dX7_town_0 rfl 1 rfl ?_
  by_cases c1_0 : x1 = 0
  · replace h := it c1_0 h
    have t1 : x1.toInt = 0 := by rw [c1_0]; rfl
    refine j_tin (tgt := 32) K dX7_town_1 (by rw [t1]; decide) (by rw [t1]; decide) (by rw [t1]; rfl) (by decide) ?_
    refine j_aload_n K dX7_town_32 rfl 0 rfl ?_
    obtain ⟨v33, e33, h⟩ := bd h
    refine fgX7_10 K dX7_town_33 e33 ?_
    obtain ⟨o36, ew36, hz36⟩ := bd h
    obtain ⟨er36, ho36⟩ := ob_some ew36
    subst er36
    have h := hz36
    obtain ⟨v36, S36, e36, h⟩ := bd2 h
    refine j_cI (st := []) K (r_V (vs := []) (n := 0) (o := o36) K (c_X0_beatsOfAll e36) ho36 (by decide) rfl dX7_town_36 z553 z554 z555 z2 z556 ⟨zd_X0_beatsOfAll, rfl, rfl, rfl, ⟨Nat.le_of_ble_eq_true rfl, Nat.le_of_ble_eq_true rfl⟩, Nat.le_of_ble_eq_true rfl, Nat.le_of_ble_eq_true rfl, Nat.le_of_ble_eq_true rfl⟩) rfl ?_
    exact j_iret K X dX7_town_39 h
  replace h := ie c1_0 h
  by_cases c1_1 : x1 = 1
  · replace h := it c1_1 h
    have t1 : x1.toInt = 1 := by rw [c1_1]; rfl
    refine j_tin (tgt := 40) K dX7_town_1 (by rw [t1]; decide) (by rw [t1]; decide) (by rw [t1]; rfl) (by decide) ?_
    refine j_aload_n K dX7_town_40 rfl 0 rfl ?_
    obtain ⟨v41, e41, h⟩ := bd h
    refine fgX7_10 K dX7_town_41 e41 ?_
    obtain ⟨o44, ew44, hz44⟩ := bd h
    obtain ⟨er44, ho44⟩ := ob_some ew44
    subst er44
    have h := hz44
    obtain ⟨v44, S44, e44, h⟩ := bd2 h
    refine j_cI (st := []) K (r_V (vs := []) (n := 0) (o := o44) K (c_X0_loudest e44) ho44 (by decide) rfl dX7_town_44 z558 z559 z560 z2 z561 ⟨zd_X0_loudest, rfl, rfl, rfl, ⟨Nat.le_of_ble_eq_true rfl, Nat.le_of_ble_eq_true rfl⟩, Nat.le_of_ble_eq_true rfl, Nat.le_of_ble_eq_true rfl, Nat.le_of_ble_eq_true rfl⟩) rfl ?_
    exact j_iret K X dX7_town_47 h
  replace h := ie c1_1 h
  by_cases c1_2 : x1 = 2
  · replace h := it c1_2 h
    have t1 : x1.toInt = 2 := by rw [c1_2]; rfl
    refine j_tin (tgt := 48) K dX7_town_1 (by rw [t1]; decide) (by rw [t1]; decide) (by rw [t1]; rfl) (by decide) ?_
    refine j_aload_n K dX7_town_48 rfl 0 rfl ?_
    obtain ⟨v49, e49, h⟩ := bd h
    refine fgX7_10 K dX7_town_49 e49 ?_
    obtain ⟨o52, ew52, hz52⟩ := bd h
    obtain ⟨er52, ho52⟩ := ob_some ew52
    subst er52
    have h := hz52
    obtain ⟨v52, S52, e52, h⟩ := bd2 h
    refine j_cI (st := []) K (r_V (vs := []) (n := 0) (o := o52) K (c_X0_silent e52) ho52 (by decide) rfl dX7_town_52 z562 z563 z564 z2 z565 ⟨zd_X0_silent, rfl, rfl, rfl, ⟨Nat.le_of_ble_eq_true rfl, Nat.le_of_ble_eq_true rfl⟩, Nat.le_of_ble_eq_true rfl, Nat.le_of_ble_eq_true rfl, Nat.le_of_ble_eq_true rfl⟩) rfl ?_
    exact j_iret K X dX7_town_55 h
  replace h := ie c1_2 h
  by_cases c1_3 : x1 = 3
  · replace h := it c1_3 h
    have t1 : x1.toInt = 3 := by rw [c1_3]; rfl
    refine j_tin (tgt := 56) K dX7_town_1 (by rw [t1]; decide) (by rw [t1]; decide) (by rw [t1]; rfl) (by decide) ?_
    refine j_aload_n K dX7_town_56 rfl 0 rfl ?_
    obtain ⟨v57, e57, h⟩ := bd h
    refine fgX7_10 K dX7_town_57 e57 ?_
    obtain ⟨o60, ew60, hz60⟩ := bd h
    obtain ⟨er60, ho60⟩ := ob_some ew60
    subst er60
    have h := hz60
    obtain ⟨v60, S60, e60, h⟩ := bd2 h
    refine j_cI (st := []) K (r_V (vs := []) (n := 0) (o := o60) K (c_X0_catchersOfAnybody e60) ho60 (by decide) rfl dX7_town_60 z566 z567 z568 z2 z569 ⟨zd_X0_catchersOfAnybody, rfl, rfl, rfl, ⟨Nat.le_of_ble_eq_true rfl, Nat.le_of_ble_eq_true rfl⟩, Nat.le_of_ble_eq_true rfl, Nat.le_of_ble_eq_true rfl, Nat.le_of_ble_eq_true rfl⟩) rfl ?_
    exact j_iret K X dX7_town_63 h
  replace h := ie c1_3 h
  have t1_0 : x1.toInt ≠ 0 := swn rfl c1_0
  have t1_1 : x1.toInt ≠ 1 := swn rfl c1_1
  have t1_2 : x1.toInt ≠ 2 := swn rfl c1_2
  have t1_3 : x1.toInt ≠ 3 := swn rfl c1_3
  refine j_tout (tgt := 64) K dX7_town_1 (by omega) (by decide) ?_
  refine j_bipush (v := (-2 : Int32)) K dX7_town_64 (by decide) ?_
  exact j_iret K X dX7_town_66 h
theorem c_X7_town {l : Launch} {fu : Nat} {S : Hp} {o : Nat} {x1 : Int32} {res : Int32 × Hp} (h : F_X7_town fu S o x1 = some res) : Ct l yX7_town cX7_town 2 (some .int) (rmd 6 0 0) 0 0 [vR (some o), vI x1] S (QI res) :=
  z_entry (by decide +kernel) (Nat.le_of_ble_eq_true rfl) (fun E ad K X => w_X7_town K X h)

theorem dX7_night_0 : decode cX7_night 0 = .ok (.aload_n 0, 1) ∧ 0 + 1 = 1 := ⟨by decide +kernel, rfl⟩
theorem dX7_night_1 : decode cX7_night 1 = .ok (.getfield 10, 3) ∧ 1 + 3 = 4 := ⟨by decide +kernel, rfl⟩
theorem dX7_night_4 : decode cX7_night 4 = .ok (.getfield 96, 3) ∧ 4 + 3 = 7 := ⟨by decide +kernel, rfl⟩
theorem dX7_night_7 : decode cX7_night 7 = .ok (.sipush 999, 3) ∧ 7 + 3 = 10 := ⟨by decide +kernel, rfl⟩
theorem dX7_night_10 : decode cX7_night 10 = .ok (.if_icmp .lt 6, 3) ∧ 10 + 3 = 13 ∧ ((10 : Nat) : Int) + (6) = ((16 : Nat) : Int) := ⟨by decide +kernel, rfl, by decide⟩
theorem dX7_night_13 : decode cX7_night 13 = .ok (.bipush (-3), 2) ∧ 13 + 2 = 15 := ⟨by decide +kernel, rfl⟩
theorem dX7_night_15 : decode cX7_night 15 = .ok (.ireturn, 1) := by decide +kernel
theorem dX7_night_16 : decode cX7_night 16 = .ok (.aload_n 0, 1) ∧ 16 + 1 = 17 := ⟨by decide +kernel, rfl⟩
theorem dX7_night_17 : decode cX7_night 17 = .ok (.getfield 10, 3) ∧ 17 + 3 = 20 := ⟨by decide +kernel, rfl⟩
theorem dX7_night_20 : decode cX7_night 20 = .ok (.invokevirtual 199, 3) := by decide +kernel
theorem dX7_night_23 : decode cX7_night 23 = .ok (.istore_n 1, 1) ∧ 23 + 1 = 24 := ⟨by decide +kernel, rfl⟩
theorem dX7_night_24 : decode cX7_night 24 = .ok (.aload_n 0, 1) ∧ 24 + 1 = 25 := ⟨by decide +kernel, rfl⟩
theorem dX7_night_25 : decode cX7_night 25 = .ok (.getfield 10, 3) ∧ 25 + 3 = 28 := ⟨by decide +kernel, rfl⟩
theorem dX7_night_28 : decode cX7_night 28 = .ok (.invokevirtual 211, 3) := by decide +kernel
theorem dX7_night_31 : decode cX7_night 31 = .ok (.iload_n 1, 1) ∧ 31 + 1 = 32 := ⟨by decide +kernel, rfl⟩
theorem dX7_night_32 : decode cX7_night 32 = .ok (.ireturn, 1) := by decide +kernel
def F_X7_night (fu : Nat) (S : Hp) (o : Nat) : Option (Int32 × Hp) :=
  (gR S (some o) 5 0).bind fun v1 =>
  (gI S v1 0 9).bind fun v4 =>
  if v4 < (999 : Int32) then
    (gR S (some o) 5 0).bind fun v17 =>
    (ob S 0 v17).bind fun o20 =>
    b2 (F_X0_beatsOfAll fu S o20) fun v20 S20 =>
    (gR S20 (some o) 5 0).bind fun v25 =>
    (ob S20 0 v25).bind fun o28 =>
    (F_X0_pass fu S20 o28).bind fun S28 =>
    some (v20, S28)
  else
    some ((-3 : Int32), S)
set_option maxRecDepth 100000 in
set_option maxHeartbeats 4000000 in
theorem w_X7_night {E : Cx} {l : Launch} {res : Int32 × Hp} {ad : Nat → Nat} {fu : Nat} {S : Hp} {o : Nat} (K : Kx E cX7_night RX7 (rmd 6 0 0)) (X : Bx E l yX7_night 2 (some .int) 0 0 ad (QI res)) (h : F_X7_night fu S o = some res) : J E 0 0 0 [(0, vR (some o))] [] S ad := by
  refine j_aload_n K dX7_night_0 rfl 0 rfl ?_
  obtain ⟨v1, e1, h⟩ := bd h
  refine fgX7_10 K dX7_night_1 e1 ?_
  obtain ⟨v4, e4, h⟩ := bd h
  refine fgX7_96 K dX7_night_4 e4 ?_
  refine j_sipush (v := (999 : Int32)) K dX7_night_7 (by decide) ?_
  refine j_icmp_lt K dX7_night_10 (fun c10 => ?_) (fun c10 => ?_)
  · replace h := it c10 h
    refine j_aload_n K dX7_night_16 rfl 0 rfl ?_
    obtain ⟨v17, e17, h⟩ := bd h
    refine fgX7_10 K dX7_night_17 e17 ?_
    obtain ⟨o20, ew20, hz20⟩ := bd h
    obtain ⟨er20, ho20⟩ := ob_some ew20
    subst er20
    have h := hz20
    obtain ⟨v20, S20, e20, h⟩ := bd2 h
    refine j_cI (st := []) K (r_V (vs := []) (n := 0) (o := o20) K (c_X0_beatsOfAll e20) ho20 (by decide) rfl dX7_night_20 z553 z554 z555 z2 z556 ⟨zd_X0_beatsOfAll, rfl, rfl, rfl, ⟨Nat.le_of_ble_eq_true rfl, Nat.le_of_ble_eq_true rfl⟩, Nat.le_of_ble_eq_true rfl, Nat.le_of_ble_eq_true rfl, Nat.le_of_ble_eq_true rfl⟩) rfl ?_
    refine j_istore_n (lv' := [(1, vI v20), (0, vR (some o))]) K dX7_night_23 rfl X.2.2.1 (by decide) rfl ?_
    refine j_aload_n K dX7_night_24 rfl 1 rfl ?_
    obtain ⟨v25, e25, h⟩ := bd h
    refine fgX7_10 K dX7_night_25 e25 ?_
    obtain ⟨o28, ew28, hz28⟩ := bd h
    obtain ⟨er28, ho28⟩ := ob_some ew28
    subst er28
    have h := hz28
    obtain ⟨S28, e28, h⟩ := bd h
    refine j_cV (st := []) K (r_V (vs := []) (n := 0) (o := o28) K (c_X0_pass e28) ho28 (by decide) rfl dX7_night_28 z576 z577 z578 z2 z579 ⟨zd_X0_pass, rfl, rfl, rfl, ⟨Nat.le_of_ble_eq_true rfl, Nat.le_of_ble_eq_true rfl⟩, Nat.le_of_ble_eq_true rfl, Nat.le_of_ble_eq_true rfl, Nat.le_of_ble_eq_true rfl⟩) rfl ?_
    refine j_iload_n K dX7_night_31 rfl 0 rfl ?_
    exact j_iret K X dX7_night_32 h
  · replace h := ie c10 h
    refine j_bipush (v := (-3 : Int32)) K dX7_night_13 (by decide) ?_
    exact j_iret K X dX7_night_15 h
theorem c_X7_night {l : Launch} {fu : Nat} {S : Hp} {o : Nat} {res : Int32 × Hp} (h : F_X7_night fu S o = some res) : Ct l yX7_night cX7_night 2 (some .int) (rmd 6 0 0) 0 0 [vR (some o)] S (QI res) :=
  z_entry (by decide +kernel) (Nat.le_of_ble_eq_true rfl) (fun E ad K X => w_X7_night K X h)

theorem dX7_strokesBySet_0 : decode cX7_strokesBySet 0 = .ok (.iconst 0, 1) ∧ 0 + 1 = 1 := ⟨by decide +kernel, rfl⟩
theorem dX7_strokesBySet_1 : decode cX7_strokesBySet 1 = .ok (.istore_n 2, 1) ∧ 1 + 1 = 2 := ⟨by decide +kernel, rfl⟩
theorem dX7_strokesBySet_2 : decode cX7_strokesBySet 2 = .ok (.iconst 0, 1) ∧ 2 + 1 = 3 := ⟨by decide +kernel, rfl⟩
theorem dX7_strokesBySet_3 : decode cX7_strokesBySet 3 = .ok (.istore_n 3, 1) ∧ 3 + 1 = 4 := ⟨by decide +kernel, rfl⟩
theorem dX7_strokesBySet_4 : decode cX7_strokesBySet 4 = .ok (.iload_n 3, 1) ∧ 4 + 1 = 5 := ⟨by decide +kernel, rfl⟩
theorem dX7_strokesBySet_5 : decode cX7_strokesBySet 5 = .ok (.aload_n 0, 1) ∧ 5 + 1 = 6 := ⟨by decide +kernel, rfl⟩
theorem dX7_strokesBySet_6 : decode cX7_strokesBySet 6 = .ok (.getfield 10, 3) ∧ 6 + 3 = 9 := ⟨by decide +kernel, rfl⟩
theorem dX7_strokesBySet_9 : decode cX7_strokesBySet 9 = .ok (.getfield 93, 3) ∧ 9 + 3 = 12 := ⟨by decide +kernel, rfl⟩
theorem dX7_strokesBySet_12 : decode cX7_strokesBySet 12 = .ok (.if_icmp .ge 32, 3) ∧ 12 + 3 = 15 ∧ ((12 : Nat) : Int) + (32) = ((44 : Nat) : Int) := ⟨by decide +kernel, rfl, by decide⟩
theorem dX7_strokesBySet_15 : decode cX7_strokesBySet 15 = .ok (.iload_n 2, 1) ∧ 15 + 1 = 16 := ⟨by decide +kernel, rfl⟩
theorem dX7_strokesBySet_16 : decode cX7_strokesBySet 16 = .ok (.iload_n 1, 1) ∧ 16 + 1 = 17 := ⟨by decide +kernel, rfl⟩
theorem dX7_strokesBySet_17 : decode cX7_strokesBySet 17 = .ok (.iload_n 3, 1) ∧ 17 + 1 = 18 := ⟨by decide +kernel, rfl⟩
theorem dX7_strokesBySet_18 : decode cX7_strokesBySet 18 = .ok (.invokestatic 323, 3) := by decide +kernel
theorem dX7_strokesBySet_21 : decode cX7_strokesBySet 21 = .ok (.ifCond .eq 14, 3) ∧ 21 + 3 = 24 ∧ ((21 : Nat) : Int) + (14) = ((35 : Nat) : Int) := ⟨by decide +kernel, rfl, by decide⟩
theorem dX7_strokesBySet_24 : decode cX7_strokesBySet 24 = .ok (.aload_n 0, 1) ∧ 24 + 1 = 25 := ⟨by decide +kernel, rfl⟩
theorem dX7_strokesBySet_25 : decode cX7_strokesBySet 25 = .ok (.getfield 58, 3) ∧ 25 + 3 = 28 := ⟨by decide +kernel, rfl⟩
theorem dX7_strokesBySet_28 : decode cX7_strokesBySet 28 = .ok (.iload_n 3, 1) ∧ 28 + 1 = 29 := ⟨by decide +kernel, rfl⟩
theorem dX7_strokesBySet_29 : decode cX7_strokesBySet 29 = .ok (.invokestatic 116, 3) := by decide +kernel
theorem dX7_strokesBySet_32 : decode cX7_strokesBySet 32 = .ok (.goto 4, 3) ∧ ((32 : Nat) : Int) + (4) = ((36 : Nat) : Int) := ⟨by decide +kernel, by decide⟩
theorem dX7_strokesBySet_35 : decode cX7_strokesBySet 35 = .ok (.iconst 0, 1) ∧ 35 + 1 = 36 := ⟨by decide +kernel, rfl⟩
theorem dX7_strokesBySet_36 : decode cX7_strokesBySet 36 = .ok (.iadd, 1) ∧ 36 + 1 = 37 := ⟨by decide +kernel, rfl⟩
theorem dX7_strokesBySet_37 : decode cX7_strokesBySet 37 = .ok (.istore_n 2, 1) ∧ 37 + 1 = 38 := ⟨by decide +kernel, rfl⟩
theorem dX7_strokesBySet_38 : decode cX7_strokesBySet 38 = .ok (.iinc 3 1, 3) ∧ 38 + 3 = 41 := ⟨by decide +kernel, rfl⟩
theorem dX7_strokesBySet_41 : decode cX7_strokesBySet 41 = .ok (.goto (-37), 3) ∧ ((41 : Nat) : Int) + (-37) = ((4 : Nat) : Int) := ⟨by decide +kernel, by decide⟩
theorem dX7_strokesBySet_44 : decode cX7_strokesBySet 44 = .ok (.iload_n 2, 1) ∧ 44 + 1 = 45 := ⟨by decide +kernel, rfl⟩
theorem dX7_strokesBySet_45 : decode cX7_strokesBySet 45 = .ok (.ireturn, 1) := by decide +kernel
def B_X7_strokesBySet_36 (k4 : Hp → Int32 → Int32 → Option (Int32 × Hp)) (fu : Nat) (o : Nat) (S : Hp) (x1 : Int32) (x3 : Int32) (s0 : Int32) (s1 : Int32) : Option (Int32 × Hp) :=
  k4 S (s1 + s0) (x3 + (1 : Int32))
set_option maxRecDepth 100000 in
set_option maxHeartbeats 4000000 in
theorem w_X7_strokesBySet_36 {E : Cx} {l : Launch} {res : Int32 × Hp} {ad : Nat → Nat} {k4 : Hp → Int32 → Int32 → Option (Int32 × Hp)} {fu : Nat} {o : Nat} {S : Hp} {x1 : Int32} {x3 : Int32} {s0 : Int32} {s1 : Int32} (K : Kx E cX7_strokesBySet RX7 (rmd 1 0 0)) (X : Bx E l yX7_strokesBySet 4 (some .int) 0 0 ad (QI res)) (hk4 : ∀ (S : Hp) (x2 : Int32) (x3 : Int32), k4 S x2 x3 = some res → J E 0 0 4 [(0, vR (some o)), (1, vI x1), (2, vI x2), (3, vI x3)] [] S ad) (h : B_X7_strokesBySet_36 k4 fu o S x1 x3 s0 s1 = some res) : J E 0 0 36 [(0, vR (some o)), (1, vI x1), (3, vI x3)] [vI s0, vI s1] S ad := by
  refine j_iadd K dX7_strokesBySet_36 ?_
  refine j_istore_n (lv' := [(2, vI (s1 + s0)), (0, vR (some o)), (1, vI x1), (3, vI x3)]) K dX7_strokesBySet_37 rfl X.2.2.1 (by decide) rfl ?_
  refine j_iinc (q := 3) (v := (x3 + (1 : Int32))) (lv' := [(3, vI (x3 + (1 : Int32))), (2, vI (s1 + s0)), (0, vR (some o)), (1, vI x1)]) K dX7_strokesBySet_38 rfl rfl X.2.2.1 (by decide) rfl ?_
  refine j_goto K dX7_strokesBySet_41 ?_
  exact j_sub [2, 3, 1, 0] rfl (hk4 _ _ _ h)
def L_X7_strokesBySet_4 (k4 : Hp → Int32 → Int32 → Option (Int32 × Hp)) (fu : Nat) (o : Nat) (x1 : Int32) (S : Hp) (x2 : Int32) (x3 : Int32) : Option (Int32 × Hp) :=
  (gR S (some o) 5 0).bind fun v6 =>
  (gI S v6 0 5).bind fun v9 =>
  if v9 ≤ x3 then
    some (x2, S)
  else
    b2 (F_X7_hasBit S x1 x3) fun v18 S18 =>
    if v18 = 0 then
      B_X7_strokesBySet_36 k4 fu o S18 x1 x3 (0 : Int32) x2
    else
      (gR S18 (some o) 5 9).bind fun v25 =>
      b2 (F_X7_at S18 v25 x3) fun v29 S29 =>
      B_X7_strokesBySet_36 k4 fu o S29 x1 x3 v29 x2
set_option maxRecDepth 100000 in
set_option maxHeartbeats 4000000 in
theorem wl_X7_strokesBySet_4 {E : Cx} {l : Launch} {res : Int32 × Hp} {ad : Nat → Nat} {k4 : Hp → Int32 → Int32 → Option (Int32 × Hp)} {fu : Nat} {o : Nat} {S : Hp} {x1 : Int32} {x2 : Int32} {x3 : Int32} (K : Kx E cX7_strokesBySet RX7 (rmd 1 0 0)) (X : Bx E l yX7_strokesBySet 4 (some .int) 0 0 ad (QI res)) (hk4 : ∀ (S : Hp) (x2 : Int32) (x3 : Int32), k4 S x2 x3 = some res → J E 0 0 4 [(0, vR (some o)), (1, vI x1), (2, vI x2), (3, vI x3)] [] S ad) (h : L_X7_strokesBySet_4 k4 fu o x1 S x2 x3 = some res) : J E 0 0 4 [(0, vR (some o)), (1, vI x1), (2, vI x2), (3, vI x3)] [] S ad := by
  refine j_iload_n K dX7_strokesBySet_4 rfl 3 rfl ?_
  refine j_aload_n K dX7_strokesBySet_5 rfl 0 rfl ?_
  obtain ⟨v6, e6, h⟩ := bd h
  refine fgX7_10 K dX7_strokesBySet_6 e6 ?_
  obtain ⟨v9, e9, h⟩ := bd h
  refine fgX7_93 K dX7_strokesBySet_9 e9 ?_
  refine j_icmp_ge K dX7_strokesBySet_12 (fun c12 => ?_) (fun c12 => ?_)
  · replace h := it c12 h
    refine j_iload_n K dX7_strokesBySet_44 rfl 2 rfl ?_
    exact j_iret K X dX7_strokesBySet_45 h
  · replace h := ie c12 h
    refine j_iload_n K dX7_strokesBySet_15 rfl 2 rfl ?_
    refine j_iload_n K dX7_strokesBySet_16 rfl 1 rfl ?_
    refine j_iload_n K dX7_strokesBySet_17 rfl 3 rfl ?_
    obtain ⟨v18, S18, e18, h⟩ := bd2 h
    refine j_cI (st := [vI x2]) K (r_S (vs := [vI x1, vI x3]) (n := 2) K (c_X7_hasBit e18) dX7_strokesBySet_18 z593 z510 z1 z511 ⟨zd_X7_hasBit, rfl, rfl, rfl, ⟨Nat.le_of_ble_eq_true rfl, Nat.le_of_ble_eq_true rfl⟩, Nat.le_of_ble_eq_true rfl, Nat.le_of_ble_eq_true rfl, Nat.le_of_ble_eq_true rfl⟩) rfl ?_
    refine j_if_eq K dX7_strokesBySet_21 (fun c21 => ?_) (fun c21 => ?_)
    · replace h := it c21 h
      refine j_iconst (v := (0 : Int32)) K dX7_strokesBySet_35 (by decide) ?_
      exact j_sub [0, 1, 3] rfl (w_X7_strokesBySet_36 K X hk4 h)
    · replace h := ie c21 h
      refine j_aload_n K dX7_strokesBySet_24 rfl 0 rfl ?_
      obtain ⟨v25, e25, h⟩ := bd h
      refine fgX7_58 K dX7_strokesBySet_25 e25 ?_
      refine j_iload_n K dX7_strokesBySet_28 rfl 3 rfl ?_
      obtain ⟨v29, S29, e29, h⟩ := bd2 h
      refine j_cI (st := [vI x2]) K (r_S (vs := [vR v25, vI x3]) (n := 2) K (c_X7_at e29) dX7_strokesBySet_29 z427 z227 z1 z228 ⟨zd_X7_at, rfl, rfl, rfl, ⟨Nat.le_of_ble_eq_true rfl, Nat.le_of_ble_eq_true rfl⟩, Nat.le_of_ble_eq_true rfl, Nat.le_of_ble_eq_true rfl, Nat.le_of_ble_eq_true rfl⟩) rfl ?_
      refine j_goto K dX7_strokesBySet_32 ?_
      exact j_sub [0, 1, 3] rfl (w_X7_strokesBySet_36 K X hk4 h)
def B_X7_strokesBySet_4 (fu : Nat) (o : Nat) (x1 : Int32) : Nat → Hp → Int32 → Int32 → Option (Int32 × Hp)
  | 0 => fun _ _ _ => none
  | n + 1 => L_X7_strokesBySet_4 (B_X7_strokesBySet_4 fu o x1 n) fu o x1
theorem w_X7_strokesBySet_4 {E : Cx} {l : Launch} {res : Int32 × Hp} {ad : Nat → Nat} {fu : Nat} {o : Nat} {x1 : Int32} (K : Kx E cX7_strokesBySet RX7 (rmd 1 0 0)) (X : Bx E l yX7_strokesBySet 4 (some .int) 0 0 ad (QI res)) : ∀ (n : Nat) (S : Hp) (x2 : Int32) (x3 : Int32), B_X7_strokesBySet_4 fu o x1 n S x2 x3 = some res → J E 0 0 4 [(0, vR (some o)), (1, vI x1), (2, vI x2), (3, vI x3)] [] S ad := by
  intro n
  induction n with
  | zero =>
    intro S x2 x3 h
    cases h
  | succ n ih =>
    intro S x2 x3 h
    exact wl_X7_strokesBySet_4 K X ih h
def F_X7_strokesBySet (fu : Nat) (S : Hp) (o : Nat) (x1 : Int32) : Option (Int32 × Hp) :=
  B_X7_strokesBySet_4 fu o x1 fu S (0 : Int32) (0 : Int32)
set_option maxRecDepth 100000 in
set_option maxHeartbeats 4000000 in
theorem w_X7_strokesBySet {E : Cx} {l : Launch} {res : Int32 × Hp} {ad : Nat → Nat} {fu : Nat} {S : Hp} {o : Nat} {x1 : Int32} (K : Kx E cX7_strokesBySet RX7 (rmd 1 0 0)) (X : Bx E l yX7_strokesBySet 4 (some .int) 0 0 ad (QI res)) (h : F_X7_strokesBySet fu S o x1 = some res) : J E 0 0 0 [(0, vR (some o)), (1, vI x1)] [] S ad := by
  refine j_iconst (v := (0 : Int32)) K dX7_strokesBySet_0 (by decide) ?_
  refine j_istore_n (lv' := [(2, vI (0 : Int32)), (0, vR (some o)), (1, vI x1)]) K dX7_strokesBySet_1 rfl X.2.2.1 (by decide) rfl ?_
  refine j_iconst (v := (0 : Int32)) K dX7_strokesBySet_2 (by decide) ?_
  refine j_istore_n (lv' := [(3, vI (0 : Int32)), (2, vI (0 : Int32)), (0, vR (some o)), (1, vI x1)]) K dX7_strokesBySet_3 rfl X.2.2.1 (by decide) rfl ?_
  exact j_sub [2, 3, 1, 0] rfl (w_X7_strokesBySet_4 K X _ _ _ _ h)
theorem c_X7_strokesBySet {l : Launch} {fu : Nat} {S : Hp} {o : Nat} {x1 : Int32} {res : Int32 × Hp} (h : F_X7_strokesBySet fu S o x1 = some res) : Ct l yX7_strokesBySet cX7_strokesBySet 4 (some .int) (rmd 1 0 0) 0 0 [vR (some o), vI x1] S (QI res) :=
  z_entry (by decide +kernel) (Nat.le_of_ble_eq_true rfl) (fun E ad K X => w_X7_strokesBySet K X h)

theorem dX7_best_0 : decode cX7_best 0 = .ok (.aload_n 0, 1) ∧ 0 + 1 = 1 := ⟨by decide +kernel, rfl⟩
theorem dX7_best_1 : decode cX7_best 1 = .ok (.getfield 10, 3) ∧ 1 + 3 = 4 := ⟨by decide +kernel, rfl⟩
theorem dX7_best_4 : decode cX7_best 4 = .ok (.iload_n 1, 1) ∧ 4 + 1 = 5 := ⟨by decide +kernel, rfl⟩
theorem dX7_best_5 : decode cX7_best 5 = .ok (.invokevirtual 143, 3) := by decide +kernel
theorem dX7_best_8 : decode cX7_best 8 = .ok (.ifCond .ne 6, 3) ∧ 8 + 3 = 11 ∧ ((8 : Nat) : Int) + (6) = ((14 : Nat) : Int) := ⟨by decide +kernel, rfl, by decide⟩
theorem dX7_best_11 : decode cX7_best 11 = .ok (.bipush (-5), 2) ∧ 11 + 2 = 13 := ⟨by decide +kernel, rfl⟩
theorem dX7_best_13 : decode cX7_best 13 = .ok (.ireturn, 1) := by decide +kernel
theorem dX7_best_14 : decode cX7_best 14 = .ok (.iload_n 2, 1) ∧ 14 + 1 = 15 := ⟨by decide +kernel, rfl⟩
theorem dX7_best_15 : decode cX7_best 15 = .ok (.invokestatic 155, 3) := by decide +kernel
theorem dX7_best_18 : decode cX7_best 18 = .ok (.ifCond .ne 6, 3) ∧ 18 + 3 = 21 ∧ ((18 : Nat) : Int) + (6) = ((24 : Nat) : Int) := ⟨by decide +kernel, rfl, by decide⟩
theorem dX7_best_21 : decode cX7_best 21 = .ok (.bipush (-7), 2) ∧ 21 + 2 = 23 := ⟨by decide +kernel, rfl⟩
theorem dX7_best_23 : decode cX7_best 23 = .ok (.ireturn, 1) := by decide +kernel
theorem dX7_best_24 : decode cX7_best 24 = .ok (.aload_n 0, 1) ∧ 24 + 1 = 25 := ⟨by decide +kernel, rfl⟩
theorem dX7_best_25 : decode cX7_best 25 = .ok (.getfield 10, 3) ∧ 25 + 3 = 28 := ⟨by decide +kernel, rfl⟩
theorem dX7_best_28 : decode cX7_best 28 = .ok (.aload_n 0, 1) ∧ 28 + 1 = 29 := ⟨by decide +kernel, rfl⟩
theorem dX7_best_29 : decode cX7_best 29 = .ok (.getfield 10, 3) ∧ 29 + 3 = 32 := ⟨by decide +kernel, rfl⟩
theorem dX7_best_32 : decode cX7_best 32 = .ok (.getfield 113, 3) ∧ 32 + 3 = 35 := ⟨by decide +kernel, rfl⟩
theorem dX7_best_35 : decode cX7_best 35 = .ok (.iload_n 1, 1) ∧ 35 + 1 = 36 := ⟨by decide +kernel, rfl⟩
theorem dX7_best_36 : decode cX7_best 36 = .ok (.invokevirtual 174, 3) := by decide +kernel
theorem dX7_best_39 : decode cX7_best 39 = .ok (.istore_n 3, 1) ∧ 39 + 1 = 40 := ⟨by decide +kernel, rfl⟩
theorem dX7_best_40 : decode cX7_best 40 = .ok (.iconst 0, 1) ∧ 40 + 1 = 41 := ⟨by decide +kernel, rfl⟩
theorem dX7_best_41 : decode cX7_best 41 = .ok (.istore 4, 2) ∧ 41 + 2 = 43 := ⟨by decide +kernel, rfl⟩
theorem dX7_best_43 : decode cX7_best 43 = .ok (.iconst (-1), 1) ∧ 43 + 1 = 44 := ⟨by decide +kernel, rfl⟩
theorem dX7_best_44 : decode cX7_best 44 = .ok (.istore 5, 2) ∧ 44 + 2 = 46 := ⟨by decide +kernel, rfl⟩
theorem dX7_best_46 : decode cX7_best 46 = .ok (.aload_n 0, 1) ∧ 46 + 1 = 47 := ⟨by decide +kernel, rfl⟩
theorem dX7_best_47 : decode cX7_best 47 = .ok (.getfield 10, 3) ∧ 47 + 3 = 50 := ⟨by decide +kernel, rfl⟩
theorem dX7_best_50 : decode cX7_best 50 = .ok (.iload_n 1, 1) ∧ 50 + 1 = 51 := ⟨by decide +kernel, rfl⟩
theorem dX7_best_51 : decode cX7_best 51 = .ok (.aload_n 0, 1) ∧ 51 + 1 = 52 := ⟨by decide +kernel, rfl⟩
theorem dX7_best_52 : decode cX7_best 52 = .ok (.getfield 58, 3) ∧ 52 + 3 = 55 := ⟨by decide +kernel, rfl⟩
theorem dX7_best_55 : decode cX7_best 55 = .ok (.invokevirtual 214, 3) := by decide +kernel
theorem dX7_best_58 : decode cX7_best 58 = .ok (.aload_n 0, 1) ∧ 58 + 1 = 59 := ⟨by decide +kernel, rfl⟩
theorem dX7_best_59 : decode cX7_best 59 = .ok (.getfield 10, 3) ∧ 59 + 3 = 62 := ⟨by decide +kernel, rfl⟩
theorem dX7_best_62 : decode cX7_best 62 = .ok (.iload_n 1, 1) ∧ 62 + 1 = 63 := ⟨by decide +kernel, rfl⟩
theorem dX7_best_63 : decode cX7_best 63 = .ok (.invokevirtual 186, 3) := by decide +kernel
theorem dX7_best_66 : decode cX7_best 66 = .ok (.iconst 0, 1) ∧ 66 + 1 = 67 := ⟨by decide +kernel, rfl⟩
theorem dX7_best_67 : decode cX7_best 67 = .ok (.istore 6, 2) ∧ 67 + 2 = 69 := ⟨by decide +kernel, rfl⟩
theorem dX7_best_69 : decode cX7_best 69 = .ok (.iload 6, 2) ∧ 69 + 2 = 71 := ⟨by decide +kernel, rfl⟩
theorem dX7_best_71 : decode cX7_best 71 = .ok (.iconst 1, 1) ∧ 71 + 1 = 72 := ⟨by decide +kernel, rfl⟩
theorem dX7_best_72 : decode cX7_best 72 = .ok (.aload_n 0, 1) ∧ 72 + 1 = 73 := ⟨by decide +kernel, rfl⟩
theorem dX7_best_73 : decode cX7_best 73 = .ok (.getfield 10, 3) ∧ 73 + 3 = 76 := ⟨by decide +kernel, rfl⟩
theorem dX7_best_76 : decode cX7_best 76 = .ok (.getfield 93, 3) ∧ 76 + 3 = 79 := ⟨by decide +kernel, rfl⟩
theorem dX7_best_79 : decode cX7_best 79 = .ok (.ishl, 1) ∧ 79 + 1 = 80 := ⟨by decide +kernel, rfl⟩
theorem dX7_best_80 : decode cX7_best 80 = .ok (.if_icmp .ge 49, 3) ∧ 80 + 3 = 83 ∧ ((80 : Nat) : Int) + (49) = ((129 : Nat) : Int) := ⟨by decide +kernel, rfl, by decide⟩
theorem dX7_best_83 : decode cX7_best 83 = .ok (.iload 6, 2) ∧ 83 + 2 = 85 := ⟨by decide +kernel, rfl⟩
theorem dX7_best_85 : decode cX7_best 85 = .ok (.iload_n 3, 1) ∧ 85 + 1 = 86 := ⟨by decide +kernel, rfl⟩
theorem dX7_best_86 : decode cX7_best 86 = .ok (.iconst (-1), 1) ∧ 86 + 1 = 87 := ⟨by decide +kernel, rfl⟩
theorem dX7_best_87 : decode cX7_best 87 = .ok (.ixor, 1) ∧ 87 + 1 = 88 := ⟨by decide +kernel, rfl⟩
theorem dX7_best_88 : decode cX7_best 88 = .ok (.iand, 1) ∧ 88 + 1 = 89 := ⟨by decide +kernel, rfl⟩
theorem dX7_best_89 : decode cX7_best 89 = .ok (.ifCond .ne 34, 3) ∧ 89 + 3 = 92 ∧ ((89 : Nat) : Int) + (34) = ((123 : Nat) : Int) := ⟨by decide +kernel, rfl, by decide⟩
theorem dX7_best_92 : decode cX7_best 92 = .ok (.aload_n 0, 1) ∧ 92 + 1 = 93 := ⟨by decide +kernel, rfl⟩
theorem dX7_best_93 : decode cX7_best 93 = .ok (.getfield 10, 3) ∧ 93 + 3 = 96 := ⟨by decide +kernel, rfl⟩
theorem dX7_best_96 : decode cX7_best 96 = .ok (.iload_n 1, 1) ∧ 96 + 1 = 97 := ⟨by decide +kernel, rfl⟩
theorem dX7_best_97 : decode cX7_best 97 = .ok (.aload_n 0, 1) ∧ 97 + 1 = 98 := ⟨by decide +kernel, rfl⟩
theorem dX7_best_98 : decode cX7_best 98 = .ok (.iload 6, 2) ∧ 98 + 2 = 100 := ⟨by decide +kernel, rfl⟩
theorem dX7_best_100 : decode cX7_best 100 = .ok (.invokevirtual 218, 3) := by decide +kernel
theorem dX7_best_103 : decode cX7_best 103 = .ok (.invokevirtual 195, 3) := by decide +kernel
theorem dX7_best_106 : decode cX7_best 106 = .ok (.istore 7, 2) ∧ 106 + 2 = 108 := ⟨by decide +kernel, rfl⟩
theorem dX7_best_108 : decode cX7_best 108 = .ok (.iload 7, 2) ∧ 108 + 2 = 110 := ⟨by decide +kernel, rfl⟩
theorem dX7_best_110 : decode cX7_best 110 = .ok (.iload 5, 2) ∧ 110 + 2 = 112 := ⟨by decide +kernel, rfl⟩
theorem dX7_best_112 : decode cX7_best 112 = .ok (.if_icmp .le 11, 3) ∧ 112 + 3 = 115 ∧ ((112 : Nat) : Int) + (11) = ((123 : Nat) : Int) := ⟨by decide +kernel, rfl, by decide⟩
theorem dX7_best_115 : decode cX7_best 115 = .ok (.iload 7, 2) ∧ 115 + 2 = 117 := ⟨by decide +kernel, rfl⟩
theorem dX7_best_117 : decode cX7_best 117 = .ok (.istore 5, 2) ∧ 117 + 2 = 119 := ⟨by decide +kernel, rfl⟩
theorem dX7_best_119 : decode cX7_best 119 = .ok (.iload 6, 2) ∧ 119 + 2 = 121 := ⟨by decide +kernel, rfl⟩
theorem dX7_best_121 : decode cX7_best 121 = .ok (.istore 4, 2) ∧ 121 + 2 = 123 := ⟨by decide +kernel, rfl⟩
theorem dX7_best_123 : decode cX7_best 123 = .ok (.iinc 6 1, 3) ∧ 123 + 3 = 126 := ⟨by decide +kernel, rfl⟩
theorem dX7_best_126 : decode cX7_best 126 = .ok (.goto (-57), 3) ∧ ((126 : Nat) : Int) + (-57) = ((69 : Nat) : Int) := ⟨by decide +kernel, by decide⟩
theorem dX7_best_129 : decode cX7_best 129 = .ok (.iload_n 2, 1) ∧ 129 + 1 = 130 := ⟨by decide +kernel, rfl⟩
theorem dX7_best_130 : decode cX7_best 130 = .ok (.ifCond .ne 8, 3) ∧ 130 + 3 = 133 ∧ ((130 : Nat) : Int) + (8) = ((138 : Nat) : Int) := ⟨by decide +kernel, rfl, by decide⟩
theorem dX7_best_133 : decode cX7_best 133 = .ok (.iload 4, 2) ∧ 133 + 2 = 135 := ⟨by decide +kernel, rfl⟩
theorem dX7_best_135 : decode cX7_best 135 = .ok (.goto 5, 3) ∧ ((135 : Nat) : Int) + (5) = ((140 : Nat) : Int) := ⟨by decide +kernel, by decide⟩
theorem dX7_best_138 : decode cX7_best 138 = .ok (.iload 5, 2) ∧ 138 + 2 = 140 := ⟨by decide +kernel, rfl⟩
theorem dX7_best_140 : decode cX7_best 140 = .ok (.ireturn, 1) := by decide +kernel
def B_X7_best_123 (k69 : Hp → Int32 → Int32 → Int32 → Option (Int32 × Hp)) (fu : Nat) (o : Nat) (S : Hp) (x1 : Int32) (x2 : Int32) (x3 : Int32) (x4 : Int32) (x5 : Int32) (x6 : Int32) : Option (Int32 × Hp) :=
  k69 S x4 x5 (x6 + (1 : Int32))
set_option maxRecDepth 100000 in
set_option maxHeartbeats 4000000 in
theorem w_X7_best_123 {E : Cx} {l : Launch} {res : Int32 × Hp} {ad : Nat → Nat} {k69 : Hp → Int32 → Int32 → Int32 → Option (Int32 × Hp)} {fu : Nat} {o : Nat} {S : Hp} {x1 : Int32} {x2 : Int32} {x3 : Int32} {x4 : Int32} {x5 : Int32} {x6 : Int32} (K : Kx E cX7_best RX7 (rmd 5 0 0)) (X : Bx E l yX7_best 8 (some .int) 0 0 ad (QI res)) (hk69 : ∀ (S : Hp) (x4 : Int32) (x5 : Int32) (x6 : Int32), k69 S x4 x5 x6 = some res → J E 0 0 69 [(0, vR (some o)), (1, vI x1), (2, vI x2), (3, vI x3), (4, vI x4), (5, vI x5), (6, vI x6)] [] S ad) (h : B_X7_best_123 k69 fu o S x1 x2 x3 x4 x5 x6 = some res) : J E 0 0 123 [(0, vR (some o)), (1, vI x1), (2, vI x2), (3, vI x3), (4, vI x4), (5, vI x5), (6, vI x6)] [] S ad := by
  refine j_iinc (q := 6) (v := (x6 + (1 : Int32))) (lv' := [(6, vI (x6 + (1 : Int32))), (0, vR (some o)), (1, vI x1), (2, vI x2), (3, vI x3), (4, vI x4), (5, vI x5)]) K dX7_best_123 rfl rfl X.2.2.1 (by decide) rfl ?_
  refine j_goto K dX7_best_126 ?_
  exact j_sub [1, 2, 3, 4, 5, 6, 0] rfl (hk69 _ _ _ _ h)
def B_X7_best_140 (fu : Nat) (o : Nat) (S : Hp) (s0 : Int32) : Option (Int32 × Hp) :=
  some (s0, S)
set_option maxRecDepth 100000 in
set_option maxHeartbeats 4000000 in
theorem w_X7_best_140 {E : Cx} {l : Launch} {res : Int32 × Hp} {ad : Nat → Nat} {fu : Nat} {o : Nat} {S : Hp} {s0 : Int32} (K : Kx E cX7_best RX7 (rmd 5 0 0)) (X : Bx E l yX7_best 8 (some .int) 0 0 ad (QI res)) (h : B_X7_best_140 fu o S s0 = some res) : J E 0 0 140 [] [vI s0] S ad := by
  exact j_iret K X dX7_best_140 h
def L_X7_best_69 (k69 : Hp → Int32 → Int32 → Int32 → Option (Int32 × Hp)) (fu : Nat) (o : Nat) (x1 : Int32) (x2 : Int32) (x3 : Int32) (S : Hp) (x4 : Int32) (x5 : Int32) (x6 : Int32) : Option (Int32 × Hp) :=
  (gR S (some o) 5 0).bind fun v73 =>
  (gI S v73 0 5).bind fun v76 =>
  if ((1 : Int32) <<< (v76 &&& 31)) ≤ x6 then
    if x2 = 0 then
      B_X7_best_140 fu o S x4
    else
      B_X7_best_140 fu o S x5
  else
    if (x6 &&& (x3 ^^^ (-1 : Int32))) = 0 then
      (gR S (some o) 5 0).bind fun v93 =>
      (ob S 5 (some o)).bind fun _ =>
      b2 (F_X7_strokesBySet fu S o x6) fun v100 S100 =>
      (ob S100 0 v93).bind fun o103 =>
      b2 (F_X0_thoughtAt fu S100 o103 x1 v100) fun v103 S103 =>
      if v103 ≤ x5 then
        B_X7_best_123 k69 fu o S103 x1 x2 x3 x4 x5 x6
      else
        B_X7_best_123 k69 fu o S103 x1 x2 x3 x6 v103 x6
    else
      B_X7_best_123 k69 fu o S x1 x2 x3 x4 x5 x6
set_option maxRecDepth 100000 in
set_option maxHeartbeats 4000000 in
theorem wl_X7_best_69 {E : Cx} {l : Launch} {res : Int32 × Hp} {ad : Nat → Nat} {k69 : Hp → Int32 → Int32 → Int32 → Option (Int32 × Hp)} {fu : Nat} {o : Nat} {S : Hp} {x1 : Int32} {x2 : Int32} {x3 : Int32} {x4 : Int32} {x5 : Int32} {x6 : Int32} (K : Kx E cX7_best RX7 (rmd 5 0 0)) (X : Bx E l yX7_best 8 (some .int) 0 0 ad (QI res)) (hk69 : ∀ (S : Hp) (x4 : Int32) (x5 : Int32) (x6 : Int32), k69 S x4 x5 x6 = some res → J E 0 0 69 [(0, vR (some o)), (1, vI x1), (2, vI x2), (3, vI x3), (4, vI x4), (5, vI x5), (6, vI x6)] [] S ad) (h : L_X7_best_69 k69 fu o x1 x2 x3 S x4 x5 x6 = some res) : J E 0 0 69 [(0, vR (some o)), (1, vI x1), (2, vI x2), (3, vI x3), (4, vI x4), (5, vI x5), (6, vI x6)] [] S ad := by
  refine j_iload K dX7_best_69 6 rfl ?_
  refine j_iconst (v := (1 : Int32)) K dX7_best_71 (by decide) ?_
  refine j_aload_n K dX7_best_72 rfl 0 rfl ?_
  obtain ⟨v73, e73, h⟩ := bd h
  refine fgX7_10 K dX7_best_73 e73 ?_
  obtain ⟨v76, e76, h⟩ := bd h
  refine fgX7_93 K dX7_best_76 e76 ?_
  refine j_ishl K dX7_best_79 ?_
  refine j_icmp_ge K dX7_best_80 (fun c80 => ?_) (fun c80 => ?_)
  · replace h := it c80 h
    refine j_iload_n K dX7_best_129 rfl 2 rfl ?_
    refine j_if_ne K dX7_best_130 (fun c130 => ?_) (fun c130 => ?_)
    · replace h := ie c130 h
      refine j_iload K dX7_best_138 5 rfl ?_
      exact j_sub [] rfl (w_X7_best_140 K X h)
    · replace h := it c130 h
      refine j_iload K dX7_best_133 4 rfl ?_
      refine j_goto K dX7_best_135 ?_
      exact j_sub [] rfl (w_X7_best_140 K X h)
  · replace h := ie c80 h
    refine j_iload K dX7_best_83 6 rfl ?_
    refine j_iload_n K dX7_best_85 rfl 3 rfl ?_
    refine j_iconst (v := (-1 : Int32)) K dX7_best_86 (by decide) ?_
    refine j_ixor K dX7_best_87 ?_
    refine j_iand K dX7_best_88 ?_
    refine j_if_ne K dX7_best_89 (fun c89 => ?_) (fun c89 => ?_)
    · replace h := ie c89 h
      exact w_X7_best_123 K X hk69 h
    · replace h := it c89 h
      refine j_aload_n K dX7_best_92 rfl 0 rfl ?_
      obtain ⟨v93, e93, h⟩ := bd h
      refine fgX7_10 K dX7_best_93 e93 ?_
      refine j_iload_n K dX7_best_96 rfl 1 rfl ?_
      refine j_aload_n K dX7_best_97 rfl 0 rfl ?_
      refine j_iload K dX7_best_98 6 rfl ?_
      obtain ⟨w100, ew100, h⟩ := bd h
      have ho100 := obS ew100
      obtain ⟨v100, S100, e100, h⟩ := bd2 h
      refine j_cI (st := [vI x1, vR v93]) K (r_V (vs := [vI x6]) (n := 1) (o := o) K (c_X7_strokesBySet e100) ho100 (by decide) rfl dX7_best_100 z589 z591 zs18 z1 z592 ⟨zd_X7_strokesBySet, rfl, rfl, rfl, ⟨Nat.le_of_ble_eq_true rfl, Nat.le_of_ble_eq_true rfl⟩, Nat.le_of_ble_eq_true rfl, Nat.le_of_ble_eq_true rfl, Nat.le_of_ble_eq_true rfl⟩) rfl ?_
      obtain ⟨o103, ew103, hz103⟩ := bd h
      obtain ⟨er103, ho103⟩ := ob_some ew103
      subst er103
      have h := hz103
      obtain ⟨v103, S103, e103, h⟩ := bd2 h
      refine j_cI (st := []) K (r_V (vs := [vI x1, vI v100]) (n := 2) (o := o103) K (c_X0_thoughtAt e103) ho103 (by decide) rfl dX7_best_103 z544 z545 z546 z2 z547 ⟨zd_X0_thoughtAt, rfl, rfl, rfl, ⟨Nat.le_of_ble_eq_true rfl, Nat.le_of_ble_eq_true rfl⟩, Nat.le_of_ble_eq_true rfl, Nat.le_of_ble_eq_true rfl, Nat.le_of_ble_eq_true rfl⟩) rfl ?_
      refine j_istore (lv' := [(7, vI v103), (0, vR (some o)), (1, vI x1), (2, vI x2), (3, vI x3), (4, vI x4), (5, vI x5), (6, vI x6)]) K dX7_best_106 X.2.2.1 (by decide) rfl ?_
      refine j_iload K dX7_best_108 0 rfl ?_
      refine j_iload K dX7_best_110 6 rfl ?_
      refine j_icmp_le K dX7_best_112 (fun c112 => ?_) (fun c112 => ?_)
      · replace h := it c112 h
        exact j_sub [1, 2, 3, 4, 5, 6, 7] rfl (w_X7_best_123 K X hk69 h)
      · replace h := ie c112 h
        refine j_iload K dX7_best_115 0 rfl ?_
        refine j_istore (lv' := [(5, vI v103), (7, vI v103), (0, vR (some o)), (1, vI x1), (2, vI x2), (3, vI x3), (4, vI x4), (6, vI x6)]) K dX7_best_117 X.2.2.1 (by decide) rfl ?_
        refine j_iload K dX7_best_119 7 rfl ?_
        refine j_istore (lv' := [(4, vI x6), (5, vI v103), (7, vI v103), (0, vR (some o)), (1, vI x1), (2, vI x2), (3, vI x3), (6, vI x6)]) K dX7_best_121 X.2.2.1 (by decide) rfl ?_
        exact j_sub [3, 4, 5, 6, 0, 1, 7] rfl (w_X7_best_123 K X hk69 h)
def B_X7_best_69 (fu : Nat) (o : Nat) (x1 : Int32) (x2 : Int32) (x3 : Int32) : Nat → Hp → Int32 → Int32 → Int32 → Option (Int32 × Hp)
  | 0 => fun _ _ _ _ => none
  | n + 1 => L_X7_best_69 (B_X7_best_69 fu o x1 x2 x3 n) fu o x1 x2 x3
theorem w_X7_best_69 {E : Cx} {l : Launch} {res : Int32 × Hp} {ad : Nat → Nat} {fu : Nat} {o : Nat} {x1 : Int32} {x2 : Int32} {x3 : Int32} (K : Kx E cX7_best RX7 (rmd 5 0 0)) (X : Bx E l yX7_best 8 (some .int) 0 0 ad (QI res)) : ∀ (n : Nat) (S : Hp) (x4 : Int32) (x5 : Int32) (x6 : Int32), B_X7_best_69 fu o x1 x2 x3 n S x4 x5 x6 = some res → J E 0 0 69 [(0, vR (some o)), (1, vI x1), (2, vI x2), (3, vI x3), (4, vI x4), (5, vI x5), (6, vI x6)] [] S ad := by
  intro n
  induction n with
  | zero =>
    intro S x4 x5 x6 h
    cases h
  | succ n ih =>
    intro S x4 x5 x6 h
    exact wl_X7_best_69 K X ih h
def F_X7_best (fu : Nat) (S : Hp) (o : Nat) (x1 : Int32) (x2 : Int32) : Option (Int32 × Hp) :=
  (gR S (some o) 5 0).bind fun v1 =>
  (ob S 0 v1).bind fun o5 =>
  b2 (F_X0_hasPerson S o5 x1) fun v5 S5 =>
  if v5 = 0 then
    some ((-5 : Int32), S5)
  else
    b2 (F_X7_isZeroOrOne S5 x2) fun v15 S15 =>
    if v15 = 0 then
      some ((-7 : Int32), S15)
    else
      (gR S15 (some o) 5 0).bind fun v25 =>
      (gR S15 (some o) 5 0).bind fun v29 =>
      (gR S15 v29 0 6).bind fun v32 =>
      (ob S15 0 v25).bind fun o36 =>
      b2 (F_X0_wrongsWith fu S15 o36 v32 x1) fun v36 S36 =>
      (gR S36 (some o) 5 0).bind fun v47 =>
      (gR S36 (some o) 5 9).bind fun v52 =>
      (ob S36 0 v47).bind fun o55 =>
      (F_X0_fillStrokes fu S36 o55 x1 v52).bind fun S55 =>
      (gR S55 (some o) 5 0).bind fun v59 =>
      (ob S55 0 v59).bind fun o63 =>
      (F_X0_look fu S55 o63 x1).bind fun S63 =>
      B_X7_best_69 fu o x1 x2 v36 fu S63 (0 : Int32) (-1 : Int32) (0 : Int32)
set_option maxRecDepth 100000 in
set_option maxHeartbeats 4000000 in
theorem w_X7_best {E : Cx} {l : Launch} {res : Int32 × Hp} {ad : Nat → Nat} {fu : Nat} {S : Hp} {o : Nat} {x1 : Int32} {x2 : Int32} (K : Kx E cX7_best RX7 (rmd 5 0 0)) (X : Bx E l yX7_best 8 (some .int) 0 0 ad (QI res)) (h : F_X7_best fu S o x1 x2 = some res) : J E 0 0 0 [(0, vR (some o)), (1, vI x1), (2, vI x2)] [] S ad := by
  refine j_aload_n K dX7_best_0 rfl 0 rfl ?_
  obtain ⟨v1, e1, h⟩ := bd h
  refine fgX7_10 K dX7_best_1 e1 ?_
  refine j_iload_n K dX7_best_4 rfl 1 rfl ?_
  obtain ⟨o5, ew5, hz5⟩ := bd h
  obtain ⟨er5, ho5⟩ := ob_some ew5
  subst er5
  have h := hz5
  obtain ⟨v5, S5, e5, h⟩ := bd2 h
  refine j_cI (st := []) K (r_V (vs := [vI x1]) (n := 1) (o := o5) K (c_X0_hasPerson e5) ho5 (by decide) rfl dX7_best_5 z461 z462 z463 z2 z464 ⟨zd_X0_hasPerson, rfl, rfl, rfl, ⟨Nat.le_of_ble_eq_true rfl, Nat.le_of_ble_eq_true rfl⟩, Nat.le_of_ble_eq_true rfl, Nat.le_of_ble_eq_true rfl, Nat.le_of_ble_eq_true rfl⟩) rfl ?_
  refine j_if_ne K dX7_best_8 (fun c8 => ?_) (fun c8 => ?_)
  · replace h := ie c8 h
    refine j_iload_n K dX7_best_14 rfl 2 rfl ?_
    obtain ⟨v15, S15, e15, h⟩ := bd2 h
    refine j_cI (st := []) K (r_S (vs := [vI x2]) (n := 1) K (c_X7_isZeroOrOne e15) dX7_best_15 z497 z498 z1 z499 ⟨zd_X7_isZeroOrOne, rfl, rfl, rfl, ⟨Nat.le_of_ble_eq_true rfl, Nat.le_of_ble_eq_true rfl⟩, Nat.le_of_ble_eq_true rfl, Nat.le_of_ble_eq_true rfl, Nat.le_of_ble_eq_true rfl⟩) rfl ?_
    refine j_if_ne K dX7_best_18 (fun c18 => ?_) (fun c18 => ?_)
    · replace h := ie c18 h
      refine j_aload_n K dX7_best_24 rfl 0 rfl ?_
      obtain ⟨v25, e25, h⟩ := bd h
      refine fgX7_10 K dX7_best_25 e25 ?_
      refine j_aload_n K dX7_best_28 rfl 0 rfl ?_
      obtain ⟨v29, e29, h⟩ := bd h
      refine fgX7_10 K dX7_best_29 e29 ?_
      obtain ⟨v32, e32, h⟩ := bd h
      refine fgX7_113 K dX7_best_32 e32 ?_
      refine j_iload_n K dX7_best_35 rfl 1 rfl ?_
      obtain ⟨o36, ew36, hz36⟩ := bd h
      obtain ⟨er36, ho36⟩ := ob_some ew36
      subst er36
      have h := hz36
      obtain ⟨v36, S36, e36, h⟩ := bd2 h
      refine j_cI (st := []) K (r_V (vs := [vR v32, vI x1]) (n := 2) (o := o36) K (c_X0_wrongsWith e36) ho36 (by decide) rfl dX7_best_36 z505 z506 z507 z2 z508 ⟨zd_X0_wrongsWith, rfl, rfl, rfl, ⟨Nat.le_of_ble_eq_true rfl, Nat.le_of_ble_eq_true rfl⟩, Nat.le_of_ble_eq_true rfl, Nat.le_of_ble_eq_true rfl, Nat.le_of_ble_eq_true rfl⟩) rfl ?_
      refine j_istore_n (lv' := [(3, vI v36), (0, vR (some o)), (1, vI x1), (2, vI x2)]) K dX7_best_39 rfl X.2.2.1 (by decide) rfl ?_
      refine j_iconst (v := (0 : Int32)) K dX7_best_40 (by decide) ?_
      refine j_istore (lv' := [(4, vI (0 : Int32)), (3, vI v36), (0, vR (some o)), (1, vI x1), (2, vI x2)]) K dX7_best_41 X.2.2.1 (by decide) rfl ?_
      refine j_iconst (v := (-1 : Int32)) K dX7_best_43 (by decide) ?_
      refine j_istore (lv' := [(5, vI (-1 : Int32)), (4, vI (0 : Int32)), (3, vI v36), (0, vR (some o)), (1, vI x1), (2, vI x2)]) K dX7_best_44 X.2.2.1 (by decide) rfl ?_
      refine j_aload_n K dX7_best_46 rfl 3 rfl ?_
      obtain ⟨v47, e47, h⟩ := bd h
      refine fgX7_10 K dX7_best_47 e47 ?_
      refine j_iload_n K dX7_best_50 rfl 4 rfl ?_
      refine j_aload_n K dX7_best_51 rfl 3 rfl ?_
      obtain ⟨v52, e52, h⟩ := bd h
      refine fgX7_58 K dX7_best_52 e52 ?_
      obtain ⟨o55, ew55, hz55⟩ := bd h
      obtain ⟨er55, ho55⟩ := ob_some ew55
      subst er55
      have h := hz55
      obtain ⟨S55, e55, h⟩ := bd h
      refine j_cV (st := []) K (r_V (vs := [vI x1, vR v52]) (n := 2) (o := o55) K (c_X0_fillStrokes e55) ho55 (by decide) rfl dX7_best_55 z585 z586 z587 z2 z588 ⟨zd_X0_fillStrokes, rfl, rfl, rfl, ⟨Nat.le_of_ble_eq_true rfl, Nat.le_of_ble_eq_true rfl⟩, Nat.le_of_ble_eq_true rfl, Nat.le_of_ble_eq_true rfl, Nat.le_of_ble_eq_true rfl⟩) rfl ?_
      refine j_aload_n K dX7_best_58 rfl 3 rfl ?_
      obtain ⟨v59, e59, h⟩ := bd h
      refine fgX7_10 K dX7_best_59 e59 ?_
      refine j_iload_n K dX7_best_62 rfl 4 rfl ?_
      obtain ⟨o63, ew63, hz63⟩ := bd h
      obtain ⟨er63, ho63⟩ := ob_some ew63
      subst er63
      have h := hz63
      obtain ⟨S63, e63, h⟩ := bd h
      refine j_cV (st := []) K (r_V (vs := [vI x1]) (n := 1) (o := o63) K (c_X0_look e63) ho63 (by decide) rfl dX7_best_63 z529 z530 z531 z2 z532 ⟨zd_X0_look, rfl, rfl, rfl, ⟨Nat.le_of_ble_eq_true rfl, Nat.le_of_ble_eq_true rfl⟩, Nat.le_of_ble_eq_true rfl, Nat.le_of_ble_eq_true rfl, Nat.le_of_ble_eq_true rfl⟩) rfl ?_
      refine j_iconst (v := (0 : Int32)) K dX7_best_66 (by decide) ?_
      refine j_istore (lv' := [(6, vI (0 : Int32)), (5, vI (-1 : Int32)), (4, vI (0 : Int32)), (3, vI v36), (0, vR (some o)), (1, vI x1), (2, vI x2)]) K dX7_best_67 X.2.2.1 (by decide) rfl ?_
      exact j_sub [4, 5, 6, 3, 2, 1, 0] rfl (w_X7_best_69 K X _ _ _ _ _ h)
    · replace h := it c18 h
      refine j_bipush (v := (-7 : Int32)) K dX7_best_21 (by decide) ?_
      exact j_iret K X dX7_best_23 h
  · replace h := it c8 h
    refine j_bipush (v := (-5 : Int32)) K dX7_best_11 (by decide) ?_
    exact j_iret K X dX7_best_13 h
theorem c_X7_best {l : Launch} {fu : Nat} {S : Hp} {o : Nat} {x1 : Int32} {x2 : Int32} {res : Int32 × Hp} (h : F_X7_best fu S o x1 x2 = some res) : Ct l yX7_best cX7_best 8 (some .int) (rmd 5 0 0) 0 0 [vR (some o), vI x1, vI x2] S (QI res) :=
  z_entry (by decide +kernel) (Nat.le_of_ble_eq_true rfl) (fun E ad K X => w_X7_best K X h)

theorem dX7_few_0 : decode cX7_few 0 = .ok (.aload_n 0, 1) ∧ 0 + 1 = 1 := ⟨by decide +kernel, rfl⟩
theorem dX7_few_1 : decode cX7_few 1 = .ok (.getfield 10, 3) ∧ 1 + 3 = 4 := ⟨by decide +kernel, rfl⟩
theorem dX7_few_4 : decode cX7_few 4 = .ok (.iload_n 1, 1) ∧ 4 + 1 = 5 := ⟨by decide +kernel, rfl⟩
theorem dX7_few_5 : decode cX7_few 5 = .ok (.invokevirtual 143, 3) := by decide +kernel
theorem dX7_few_8 : decode cX7_few 8 = .ok (.ifCond .ne 6, 3) ∧ 8 + 3 = 11 ∧ ((8 : Nat) : Int) + (6) = ((14 : Nat) : Int) := ⟨by decide +kernel, rfl, by decide⟩
theorem dX7_few_11 : decode cX7_few 11 = .ok (.bipush (-5), 2) ∧ 11 + 2 = 13 := ⟨by decide +kernel, rfl⟩
theorem dX7_few_13 : decode cX7_few 13 = .ok (.ireturn, 1) := by decide +kernel
theorem dX7_few_14 : decode cX7_few 14 = .ok (.aload_n 0, 1) ∧ 14 + 1 = 15 := ⟨by decide +kernel, rfl⟩
theorem dX7_few_15 : decode cX7_few 15 = .ok (.getfield 10, 3) ∧ 15 + 3 = 18 := ⟨by decide +kernel, rfl⟩
theorem dX7_few_18 : decode cX7_few 18 = .ok (.iload_n 1, 1) ∧ 18 + 1 = 19 := ⟨by decide +kernel, rfl⟩
theorem dX7_few_19 : decode cX7_few 19 = .ok (.invokevirtual 186, 3) := by decide +kernel
theorem dX7_few_22 : decode cX7_few 22 = .ok (.aload_n 0, 1) ∧ 22 + 1 = 23 := ⟨by decide +kernel, rfl⟩
theorem dX7_few_23 : decode cX7_few 23 = .ok (.getfield 10, 3) ∧ 23 + 3 = 26 := ⟨by decide +kernel, rfl⟩
theorem dX7_few_26 : decode cX7_few 26 = .ok (.invokevirtual 221, 3) := by decide +kernel
theorem dX7_few_29 : decode cX7_few 29 = .ok (.ireturn, 1) := by decide +kernel
def F_X7_few (fu : Nat) (S : Hp) (o : Nat) (x1 : Int32) : Option (Int32 × Hp) :=
  (gR S (some o) 5 0).bind fun v1 =>
  (ob S 0 v1).bind fun o5 =>
  b2 (F_X0_hasPerson S o5 x1) fun v5 S5 =>
  if v5 = 0 then
    some ((-5 : Int32), S5)
  else
    (gR S5 (some o) 5 0).bind fun v15 =>
    (ob S5 0 v15).bind fun o19 =>
    (F_X0_look fu S5 o19 x1).bind fun S19 =>
    (gR S19 (some o) 5 0).bind fun v23 =>
    (ob S19 0 v23).bind fun o26 =>
    b2 (F_X0_mostSightings fu S19 o26) fun v26 S26 =>
    some (v26, S26)
set_option maxRecDepth 100000 in
set_option maxHeartbeats 4000000 in
theorem w_X7_few {E : Cx} {l : Launch} {res : Int32 × Hp} {ad : Nat → Nat} {fu : Nat} {S : Hp} {o : Nat} {x1 : Int32} (K : Kx E cX7_few RX7 (rmd 4 0 0)) (X : Bx E l yX7_few 2 (some .int) 0 0 ad (QI res)) (h : F_X7_few fu S o x1 = some res) : J E 0 0 0 [(0, vR (some o)), (1, vI x1)] [] S ad := by
  refine j_aload_n K dX7_few_0 rfl 0 rfl ?_
  obtain ⟨v1, e1, h⟩ := bd h
  refine fgX7_10 K dX7_few_1 e1 ?_
  refine j_iload_n K dX7_few_4 rfl 1 rfl ?_
  obtain ⟨o5, ew5, hz5⟩ := bd h
  obtain ⟨er5, ho5⟩ := ob_some ew5
  subst er5
  have h := hz5
  obtain ⟨v5, S5, e5, h⟩ := bd2 h
  refine j_cI (st := []) K (r_V (vs := [vI x1]) (n := 1) (o := o5) K (c_X0_hasPerson e5) ho5 (by decide) rfl dX7_few_5 z461 z462 z463 z2 z464 ⟨zd_X0_hasPerson, rfl, rfl, rfl, ⟨Nat.le_of_ble_eq_true rfl, Nat.le_of_ble_eq_true rfl⟩, Nat.le_of_ble_eq_true rfl, Nat.le_of_ble_eq_true rfl, Nat.le_of_ble_eq_true rfl⟩) rfl ?_
  refine j_if_ne K dX7_few_8 (fun c8 => ?_) (fun c8 => ?_)
  · replace h := ie c8 h
    refine j_aload_n K dX7_few_14 rfl 0 rfl ?_
    obtain ⟨v15, e15, h⟩ := bd h
    refine fgX7_10 K dX7_few_15 e15 ?_
    refine j_iload_n K dX7_few_18 rfl 1 rfl ?_
    obtain ⟨o19, ew19, hz19⟩ := bd h
    obtain ⟨er19, ho19⟩ := ob_some ew19
    subst er19
    have h := hz19
    obtain ⟨S19, e19, h⟩ := bd h
    refine j_cV (st := []) K (r_V (vs := [vI x1]) (n := 1) (o := o19) K (c_X0_look e19) ho19 (by decide) rfl dX7_few_19 z529 z530 z531 z2 z532 ⟨zd_X0_look, rfl, rfl, rfl, ⟨Nat.le_of_ble_eq_true rfl, Nat.le_of_ble_eq_true rfl⟩, Nat.le_of_ble_eq_true rfl, Nat.le_of_ble_eq_true rfl, Nat.le_of_ble_eq_true rfl⟩) rfl ?_
    refine j_aload_n K dX7_few_22 rfl 0 rfl ?_
    obtain ⟨v23, e23, h⟩ := bd h
    refine fgX7_10 K dX7_few_23 e23 ?_
    obtain ⟨o26, ew26, hz26⟩ := bd h
    obtain ⟨er26, ho26⟩ := ob_some ew26
    subst er26
    have h := hz26
    obtain ⟨v26, S26, e26, h⟩ := bd2 h
    refine j_cI (st := []) K (r_V (vs := []) (n := 0) (o := o26) K (c_X0_mostSightings e26) ho26 (by decide) rfl dX7_few_26 z598 z599 z600 z2 z601 ⟨zd_X0_mostSightings, rfl, rfl, rfl, ⟨Nat.le_of_ble_eq_true rfl, Nat.le_of_ble_eq_true rfl⟩, Nat.le_of_ble_eq_true rfl, Nat.le_of_ble_eq_true rfl, Nat.le_of_ble_eq_true rfl⟩) rfl ?_
    exact j_iret K X dX7_few_29 h
  · replace h := it c8 h
    refine j_bipush (v := (-5 : Int32)) K dX7_few_11 (by decide) ?_
    exact j_iret K X dX7_few_13 h
theorem c_X7_few {l : Launch} {fu : Nat} {S : Hp} {o : Nat} {x1 : Int32} {res : Int32 × Hp} (h : F_X7_few fu S o x1 = some res) : Ct l yX7_few cX7_few 2 (some .int) (rmd 4 0 0) 0 0 [vR (some o), vI x1] S (QI res) :=
  z_entry (by decide +kernel) (Nat.le_of_ble_eq_true rfl) (fun E ad K X => w_X7_few K X h)

theorem dX7_hire_0 : decode cX7_hire 0 = .ok (.aload_n 0, 1) ∧ 0 + 1 = 1 := ⟨by decide +kernel, rfl⟩
theorem dX7_hire_1 : decode cX7_hire 1 = .ok (.getfield 10, 3) ∧ 1 + 3 = 4 := ⟨by decide +kernel, rfl⟩
theorem dX7_hire_4 : decode cX7_hire 4 = .ok (.iload_n 1, 1) ∧ 4 + 1 = 5 := ⟨by decide +kernel, rfl⟩
theorem dX7_hire_5 : decode cX7_hire 5 = .ok (.invokevirtual 143, 3) := by decide +kernel
theorem dX7_hire_8 : decode cX7_hire 8 = .ok (.ifCond .ne 6, 3) ∧ 8 + 3 = 11 ∧ ((8 : Nat) : Int) + (6) = ((14 : Nat) : Int) := ⟨by decide +kernel, rfl, by decide⟩
theorem dX7_hire_11 : decode cX7_hire 11 = .ok (.bipush (-5), 2) ∧ 11 + 2 = 13 := ⟨by decide +kernel, rfl⟩
theorem dX7_hire_13 : decode cX7_hire 13 = .ok (.ireturn, 1) := by decide +kernel
theorem dX7_hire_14 : decode cX7_hire 14 = .ok (.iload_n 2, 1) ∧ 14 + 1 = 15 := ⟨by decide +kernel, rfl⟩
theorem dX7_hire_15 : decode cX7_hire 15 = .ok (.invokestatic 155, 3) := by decide +kernel
theorem dX7_hire_18 : decode cX7_hire 18 = .ok (.ifCond .ne 6, 3) ∧ 18 + 3 = 21 ∧ ((18 : Nat) : Int) + (6) = ((24 : Nat) : Int) := ⟨by decide +kernel, rfl, by decide⟩
theorem dX7_hire_21 : decode cX7_hire 21 = .ok (.bipush (-7), 2) ∧ 21 + 2 = 23 := ⟨by decide +kernel, rfl⟩
theorem dX7_hire_23 : decode cX7_hire 23 = .ok (.ireturn, 1) := by decide +kernel
theorem dX7_hire_24 : decode cX7_hire 24 = .ok (.aload_n 0, 1) ∧ 24 + 1 = 25 := ⟨by decide +kernel, rfl⟩
theorem dX7_hire_25 : decode cX7_hire 25 = .ok (.getfield 10, 3) ∧ 25 + 3 = 28 := ⟨by decide +kernel, rfl⟩
theorem dX7_hire_28 : decode cX7_hire 28 = .ok (.aload_n 0, 1) ∧ 28 + 1 = 29 := ⟨by decide +kernel, rfl⟩
theorem dX7_hire_29 : decode cX7_hire 29 = .ok (.getfield 10, 3) ∧ 29 + 3 = 32 := ⟨by decide +kernel, rfl⟩
theorem dX7_hire_32 : decode cX7_hire 32 = .ok (.getfield 113, 3) ∧ 32 + 3 = 35 := ⟨by decide +kernel, rfl⟩
theorem dX7_hire_35 : decode cX7_hire 35 = .ok (.iload_n 1, 1) ∧ 35 + 1 = 36 := ⟨by decide +kernel, rfl⟩
theorem dX7_hire_36 : decode cX7_hire 36 = .ok (.invokevirtual 174, 3) := by decide +kernel
theorem dX7_hire_39 : decode cX7_hire 39 = .ok (.istore_n 3, 1) ∧ 39 + 1 = 40 := ⟨by decide +kernel, rfl⟩
theorem dX7_hire_40 : decode cX7_hire 40 = .ok (.iconst (-1), 1) ∧ 40 + 1 = 41 := ⟨by decide +kernel, rfl⟩
theorem dX7_hire_41 : decode cX7_hire 41 = .ok (.istore 4, 2) ∧ 41 + 2 = 43 := ⟨by decide +kernel, rfl⟩
theorem dX7_hire_43 : decode cX7_hire 43 = .ok (.iconst (-1), 1) ∧ 43 + 1 = 44 := ⟨by decide +kernel, rfl⟩
theorem dX7_hire_44 : decode cX7_hire 44 = .ok (.istore 5, 2) ∧ 44 + 2 = 46 := ⟨by decide +kernel, rfl⟩
theorem dX7_hire_46 : decode cX7_hire 46 = .ok (.iconst 0, 1) ∧ 46 + 1 = 47 := ⟨by decide +kernel, rfl⟩
theorem dX7_hire_47 : decode cX7_hire 47 = .ok (.istore 6, 2) ∧ 47 + 2 = 49 := ⟨by decide +kernel, rfl⟩
theorem dX7_hire_49 : decode cX7_hire 49 = .ok (.iload 6, 2) ∧ 49 + 2 = 51 := ⟨by decide +kernel, rfl⟩
theorem dX7_hire_51 : decode cX7_hire 51 = .ok (.aload_n 0, 1) ∧ 51 + 1 = 52 := ⟨by decide +kernel, rfl⟩
theorem dX7_hire_52 : decode cX7_hire 52 = .ok (.getfield 10, 3) ∧ 52 + 3 = 55 := ⟨by decide +kernel, rfl⟩
theorem dX7_hire_55 : decode cX7_hire 55 = .ok (.getfield 90, 3) ∧ 55 + 3 = 58 := ⟨by decide +kernel, rfl⟩
theorem dX7_hire_58 : decode cX7_hire 58 = .ok (.if_icmp .ge 58, 3) ∧ 58 + 3 = 61 ∧ ((58 : Nat) : Int) + (58) = ((116 : Nat) : Int) := ⟨by decide +kernel, rfl, by decide⟩
theorem dX7_hire_61 : decode cX7_hire 61 = .ok (.iload 6, 2) ∧ 61 + 2 = 63 := ⟨by decide +kernel, rfl⟩
theorem dX7_hire_63 : decode cX7_hire 63 = .ok (.iload_n 1, 1) ∧ 63 + 1 = 64 := ⟨by decide +kernel, rfl⟩
theorem dX7_hire_64 : decode cX7_hire 64 = .ok (.if_icmp .ne 7, 3) ∧ 64 + 3 = 67 ∧ ((64 : Nat) : Int) + (7) = ((71 : Nat) : Int) := ⟨by decide +kernel, rfl, by decide⟩
theorem dX7_hire_67 : decode cX7_hire 67 = .ok (.iconst (-1), 1) ∧ 67 + 1 = 68 := ⟨by decide +kernel, rfl⟩
theorem dX7_hire_68 : decode cX7_hire 68 = .ok (.goto 13, 3) ∧ ((68 : Nat) : Int) + (13) = ((81 : Nat) : Int) := ⟨by decide +kernel, by decide⟩
theorem dX7_hire_71 : decode cX7_hire 71 = .ok (.aload_n 0, 1) ∧ 71 + 1 = 72 := ⟨by decide +kernel, rfl⟩
theorem dX7_hire_72 : decode cX7_hire 72 = .ok (.getfield 10, 3) ∧ 72 + 3 = 75 := ⟨by decide +kernel, rfl⟩
theorem dX7_hire_75 : decode cX7_hire 75 = .ok (.iload 6, 2) ∧ 75 + 2 = 77 := ⟨by decide +kernel, rfl⟩
theorem dX7_hire_77 : decode cX7_hire 77 = .ok (.iload_n 3, 1) ∧ 77 + 1 = 78 := ⟨by decide +kernel, rfl⟩
theorem dX7_hire_78 : decode cX7_hire 78 = .ok (.invokevirtual 224, 3) := by decide +kernel
theorem dX7_hire_81 : decode cX7_hire 81 = .ok (.istore 7, 2) ∧ 81 + 2 = 83 := ⟨by decide +kernel, rfl⟩
theorem dX7_hire_83 : decode cX7_hire 83 = .ok (.iload 6, 2) ∧ 83 + 2 = 85 := ⟨by decide +kernel, rfl⟩
theorem dX7_hire_85 : decode cX7_hire 85 = .ok (.iload_n 1, 1) ∧ 85 + 1 = 86 := ⟨by decide +kernel, rfl⟩
theorem dX7_hire_86 : decode cX7_hire 86 = .ok (.if_icmp .eq 24, 3) ∧ 86 + 3 = 89 ∧ ((86 : Nat) : Int) + (24) = ((110 : Nat) : Int) := ⟨by decide +kernel, rfl, by decide⟩
theorem dX7_hire_89 : decode cX7_hire 89 = .ok (.iload 4, 2) ∧ 89 + 2 = 91 := ⟨by decide +kernel, rfl⟩
theorem dX7_hire_91 : decode cX7_hire 91 = .ok (.iconst (-1), 1) ∧ 91 + 1 = 92 := ⟨by decide +kernel, rfl⟩
theorem dX7_hire_92 : decode cX7_hire 92 = .ok (.if_icmp .eq 10, 3) ∧ 92 + 3 = 95 ∧ ((92 : Nat) : Int) + (10) = ((102 : Nat) : Int) := ⟨by decide +kernel, rfl, by decide⟩
theorem dX7_hire_95 : decode cX7_hire 95 = .ok (.iload 7, 2) ∧ 95 + 2 = 97 := ⟨by decide +kernel, rfl⟩
theorem dX7_hire_97 : decode cX7_hire 97 = .ok (.iload 5, 2) ∧ 97 + 2 = 99 := ⟨by decide +kernel, rfl⟩
theorem dX7_hire_99 : decode cX7_hire 99 = .ok (.if_icmp .ge 11, 3) ∧ 99 + 3 = 102 ∧ ((99 : Nat) : Int) + (11) = ((110 : Nat) : Int) := ⟨by decide +kernel, rfl, by decide⟩
theorem dX7_hire_102 : decode cX7_hire 102 = .ok (.iload 6, 2) ∧ 102 + 2 = 104 := ⟨by decide +kernel, rfl⟩
theorem dX7_hire_104 : decode cX7_hire 104 = .ok (.istore 4, 2) ∧ 104 + 2 = 106 := ⟨by decide +kernel, rfl⟩
theorem dX7_hire_106 : decode cX7_hire 106 = .ok (.iload 7, 2) ∧ 106 + 2 = 108 := ⟨by decide +kernel, rfl⟩
theorem dX7_hire_108 : decode cX7_hire 108 = .ok (.istore 5, 2) ∧ 108 + 2 = 110 := ⟨by decide +kernel, rfl⟩
theorem dX7_hire_110 : decode cX7_hire 110 = .ok (.iinc 6 1, 3) ∧ 110 + 3 = 113 := ⟨by decide +kernel, rfl⟩
theorem dX7_hire_113 : decode cX7_hire 113 = .ok (.goto (-64), 3) ∧ ((113 : Nat) : Int) + (-64) = ((49 : Nat) : Int) := ⟨by decide +kernel, by decide⟩
theorem dX7_hire_116 : decode cX7_hire 116 = .ok (.iload_n 2, 1) ∧ 116 + 1 = 117 := ⟨by decide +kernel, rfl⟩
theorem dX7_hire_117 : decode cX7_hire 117 = .ok (.ifCond .ne 8, 3) ∧ 117 + 3 = 120 ∧ ((117 : Nat) : Int) + (8) = ((125 : Nat) : Int) := ⟨by decide +kernel, rfl, by decide⟩
theorem dX7_hire_120 : decode cX7_hire 120 = .ok (.iload 4, 2) ∧ 120 + 2 = 122 := ⟨by decide +kernel, rfl⟩
theorem dX7_hire_122 : decode cX7_hire 122 = .ok (.goto 5, 3) ∧ ((122 : Nat) : Int) + (5) = ((127 : Nat) : Int) := ⟨by decide +kernel, by decide⟩
theorem dX7_hire_125 : decode cX7_hire 125 = .ok (.iload 5, 2) ∧ 125 + 2 = 127 := ⟨by decide +kernel, rfl⟩
theorem dX7_hire_127 : decode cX7_hire 127 = .ok (.ireturn, 1) := by decide +kernel
def B_X7_hire_110 (k49 : Hp → Int32 → Int32 → Int32 → Option (Int32 × Hp)) (fu : Nat) (o : Nat) (S : Hp) (x1 : Int32) (x2 : Int32) (x3 : Int32) (x4 : Int32) (x5 : Int32) (x6 : Int32) : Option (Int32 × Hp) :=
  k49 S x4 x5 (x6 + (1 : Int32))
set_option maxRecDepth 100000 in
set_option maxHeartbeats 4000000 in
theorem w_X7_hire_110 {E : Cx} {l : Launch} {res : Int32 × Hp} {ad : Nat → Nat} {k49 : Hp → Int32 → Int32 → Int32 → Option (Int32 × Hp)} {fu : Nat} {o : Nat} {S : Hp} {x1 : Int32} {x2 : Int32} {x3 : Int32} {x4 : Int32} {x5 : Int32} {x6 : Int32} (K : Kx E cX7_hire RX7 (rmd 4 0 0)) (X : Bx E l yX7_hire 8 (some .int) 0 0 ad (QI res)) (hk49 : ∀ (S : Hp) (x4 : Int32) (x5 : Int32) (x6 : Int32), k49 S x4 x5 x6 = some res → J E 0 0 49 [(0, vR (some o)), (1, vI x1), (2, vI x2), (3, vI x3), (4, vI x4), (5, vI x5), (6, vI x6)] [] S ad) (h : B_X7_hire_110 k49 fu o S x1 x2 x3 x4 x5 x6 = some res) : J E 0 0 110 [(0, vR (some o)), (1, vI x1), (2, vI x2), (3, vI x3), (4, vI x4), (5, vI x5), (6, vI x6)] [] S ad := by
  refine j_iinc (q := 6) (v := (x6 + (1 : Int32))) (lv' := [(6, vI (x6 + (1 : Int32))), (0, vR (some o)), (1, vI x1), (2, vI x2), (3, vI x3), (4, vI x4), (5, vI x5)]) K dX7_hire_110 rfl rfl X.2.2.1 (by decide) rfl ?_
  refine j_goto K dX7_hire_113 ?_
  exact j_sub [1, 2, 3, 4, 5, 6, 0] rfl (hk49 _ _ _ _ h)
def B_X7_hire_102 (k49 : Hp → Int32 → Int32 → Int32 → Option (Int32 × Hp)) (fu : Nat) (o : Nat) (S : Hp) (x1 : Int32) (x2 : Int32) (x3 : Int32) (x6 : Int32) (x7 : Int32) : Option (Int32 × Hp) :=
  B_X7_hire_110 k49 fu o S x1 x2 x3 x6 x7 x6
set_option maxRecDepth 100000 in
set_option maxHeartbeats 4000000 in
theorem w_X7_hire_102 {E : Cx} {l : Launch} {res : Int32 × Hp} {ad : Nat → Nat} {k49 : Hp → Int32 → Int32 → Int32 → Option (Int32 × Hp)} {fu : Nat} {o : Nat} {S : Hp} {x1 : Int32} {x2 : Int32} {x3 : Int32} {x6 : Int32} {x7 : Int32} (K : Kx E cX7_hire RX7 (rmd 4 0 0)) (X : Bx E l yX7_hire 8 (some .int) 0 0 ad (QI res)) (hk49 : ∀ (S : Hp) (x4 : Int32) (x5 : Int32) (x6 : Int32), k49 S x4 x5 x6 = some res → J E 0 0 49 [(0, vR (some o)), (1, vI x1), (2, vI x2), (3, vI x3), (4, vI x4), (5, vI x5), (6, vI x6)] [] S ad) (h : B_X7_hire_102 k49 fu o S x1 x2 x3 x6 x7 = some res) : J E 0 0 102 [(0, vR (some o)), (1, vI x1), (2, vI x2), (3, vI x3), (6, vI x6), (7, vI x7)] [] S ad := by
  refine j_iload K dX7_hire_102 4 rfl ?_
  refine j_istore (lv' := [(4, vI x6), (0, vR (some o)), (1, vI x1), (2, vI x2), (3, vI x3), (6, vI x6), (7, vI x7)]) K dX7_hire_104 X.2.2.1 (by decide) rfl ?_
  refine j_iload K dX7_hire_106 6 rfl ?_
  refine j_istore (lv' := [(5, vI x7), (4, vI x6), (0, vR (some o)), (1, vI x1), (2, vI x2), (3, vI x3), (6, vI x6), (7, vI x7)]) K dX7_hire_108 X.2.2.1 (by decide) rfl ?_
  exact j_sub [2, 3, 4, 5, 1, 0, 6] rfl (w_X7_hire_110 K X hk49 h)
def B_X7_hire_81 (k49 : Hp → Int32 → Int32 → Int32 → Option (Int32 × Hp)) (fu : Nat) (o : Nat) (S : Hp) (x1 : Int32) (x2 : Int32) (x3 : Int32) (x4 : Int32) (x5 : Int32) (x6 : Int32) (s0 : Int32) : Option (Int32 × Hp) :=
  if x6 = x1 then
    B_X7_hire_110 k49 fu o S x1 x2 x3 x4 x5 x6
  else
    if x4 = (-1 : Int32) then
      B_X7_hire_102 k49 fu o S x1 x2 x3 x6 s0
    else
      if x5 ≤ s0 then
        B_X7_hire_110 k49 fu o S x1 x2 x3 x4 x5 x6
      else
        B_X7_hire_102 k49 fu o S x1 x2 x3 x6 s0
set_option maxRecDepth 100000 in
set_option maxHeartbeats 4000000 in
theorem w_X7_hire_81 {E : Cx} {l : Launch} {res : Int32 × Hp} {ad : Nat → Nat} {k49 : Hp → Int32 → Int32 → Int32 → Option (Int32 × Hp)} {fu : Nat} {o : Nat} {S : Hp} {x1 : Int32} {x2 : Int32} {x3 : Int32} {x4 : Int32} {x5 : Int32} {x6 : Int32} {s0 : Int32} (K : Kx E cX7_hire RX7 (rmd 4 0 0)) (X : Bx E l yX7_hire 8 (some .int) 0 0 ad (QI res)) (hk49 : ∀ (S : Hp) (x4 : Int32) (x5 : Int32) (x6 : Int32), k49 S x4 x5 x6 = some res → J E 0 0 49 [(0, vR (some o)), (1, vI x1), (2, vI x2), (3, vI x3), (4, vI x4), (5, vI x5), (6, vI x6)] [] S ad) (h : B_X7_hire_81 k49 fu o S x1 x2 x3 x4 x5 x6 s0 = some res) : J E 0 0 81 [(0, vR (some o)), (1, vI x1), (2, vI x2), (3, vI x3), (4, vI x4), (5, vI x5), (6, vI x6)] [vI s0] S ad := by
  refine j_istore (lv' := [(7, vI s0), (0, vR (some o)), (1, vI x1), (2, vI x2), (3, vI x3), (4, vI x4), (5, vI x5), (6, vI x6)]) K dX7_hire_81 X.2.2.1 (by decide) rfl ?_
  refine j_iload K dX7_hire_83 7 rfl ?_
  refine j_iload_n K dX7_hire_85 rfl 2 rfl ?_
  refine j_icmp_eq K dX7_hire_86 (fun c86 => ?_) (fun c86 => ?_)
  · replace h := it c86 h
    exact j_sub [1, 2, 3, 4, 5, 6, 7] rfl (w_X7_hire_110 K X hk49 h)
  · replace h := ie c86 h
    refine j_iload K dX7_hire_89 5 rfl ?_
    refine j_iconst (v := (-1 : Int32)) K dX7_hire_91 (by decide) ?_
    refine j_icmp_eq K dX7_hire_92 (fun c92 => ?_) (fun c92 => ?_)
    · replace h := it c92 h
      exact j_sub [1, 2, 3, 4, 7, 0] rfl (w_X7_hire_102 K X hk49 h)
    · replace h := ie c92 h
      refine j_iload K dX7_hire_95 0 rfl ?_
      refine j_iload K dX7_hire_97 6 rfl ?_
      refine j_icmp_ge K dX7_hire_99 (fun c99 => ?_) (fun c99 => ?_)
      · replace h := it c99 h
        exact j_sub [1, 2, 3, 4, 5, 6, 7] rfl (w_X7_hire_110 K X hk49 h)
      · replace h := ie c99 h
        exact j_sub [1, 2, 3, 4, 7, 0] rfl (w_X7_hire_102 K X hk49 h)
def B_X7_hire_127 (fu : Nat) (o : Nat) (S : Hp) (s0 : Int32) : Option (Int32 × Hp) :=
  some (s0, S)
set_option maxRecDepth 100000 in
set_option maxHeartbeats 4000000 in
theorem w_X7_hire_127 {E : Cx} {l : Launch} {res : Int32 × Hp} {ad : Nat → Nat} {fu : Nat} {o : Nat} {S : Hp} {s0 : Int32} (K : Kx E cX7_hire RX7 (rmd 4 0 0)) (X : Bx E l yX7_hire 8 (some .int) 0 0 ad (QI res)) (h : B_X7_hire_127 fu o S s0 = some res) : J E 0 0 127 [] [vI s0] S ad := by
  exact j_iret K X dX7_hire_127 h
def L_X7_hire_49 (k49 : Hp → Int32 → Int32 → Int32 → Option (Int32 × Hp)) (fu : Nat) (o : Nat) (x1 : Int32) (x2 : Int32) (x3 : Int32) (S : Hp) (x4 : Int32) (x5 : Int32) (x6 : Int32) : Option (Int32 × Hp) :=
  (gR S (some o) 5 0).bind fun v52 =>
  (gI S v52 0 0).bind fun v55 =>
  if v55 ≤ x6 then
    if x2 = 0 then
      B_X7_hire_127 fu o S x4
    else
      B_X7_hire_127 fu o S x5
  else
    if x6 = x1 then
      B_X7_hire_81 k49 fu o S x1 x2 x3 x4 x5 x6 (-1 : Int32)
    else
      (gR S (some o) 5 0).bind fun v72 =>
      (ob S 0 v72).bind fun o78 =>
      b2 (F_X0_price fu S o78 x6 x3) fun v78 S78 =>
      B_X7_hire_81 k49 fu o S78 x1 x2 x3 x4 x5 x6 v78
set_option maxRecDepth 100000 in
set_option maxHeartbeats 4000000 in
theorem wl_X7_hire_49 {E : Cx} {l : Launch} {res : Int32 × Hp} {ad : Nat → Nat} {k49 : Hp → Int32 → Int32 → Int32 → Option (Int32 × Hp)} {fu : Nat} {o : Nat} {S : Hp} {x1 : Int32} {x2 : Int32} {x3 : Int32} {x4 : Int32} {x5 : Int32} {x6 : Int32} (K : Kx E cX7_hire RX7 (rmd 4 0 0)) (X : Bx E l yX7_hire 8 (some .int) 0 0 ad (QI res)) (hk49 : ∀ (S : Hp) (x4 : Int32) (x5 : Int32) (x6 : Int32), k49 S x4 x5 x6 = some res → J E 0 0 49 [(0, vR (some o)), (1, vI x1), (2, vI x2), (3, vI x3), (4, vI x4), (5, vI x5), (6, vI x6)] [] S ad) (h : L_X7_hire_49 k49 fu o x1 x2 x3 S x4 x5 x6 = some res) : J E 0 0 49 [(0, vR (some o)), (1, vI x1), (2, vI x2), (3, vI x3), (4, vI x4), (5, vI x5), (6, vI x6)] [] S ad := by
  refine j_iload K dX7_hire_49 6 rfl ?_
  refine j_aload_n K dX7_hire_51 rfl 0 rfl ?_
  obtain ⟨v52, e52, h⟩ := bd h
  refine fgX7_10 K dX7_hire_52 e52 ?_
  obtain ⟨v55, e55, h⟩ := bd h
  refine fgX7_90 K dX7_hire_55 e55 ?_
  refine j_icmp_ge K dX7_hire_58 (fun c58 => ?_) (fun c58 => ?_)
  · replace h := it c58 h
    refine j_iload_n K dX7_hire_116 rfl 2 rfl ?_
    refine j_if_ne K dX7_hire_117 (fun c117 => ?_) (fun c117 => ?_)
    · replace h := ie c117 h
      refine j_iload K dX7_hire_125 5 rfl ?_
      exact j_sub [] rfl (w_X7_hire_127 K X h)
    · replace h := it c117 h
      refine j_iload K dX7_hire_120 4 rfl ?_
      refine j_goto K dX7_hire_122 ?_
      exact j_sub [] rfl (w_X7_hire_127 K X h)
  · replace h := ie c58 h
    refine j_iload K dX7_hire_61 6 rfl ?_
    refine j_iload_n K dX7_hire_63 rfl 1 rfl ?_
    refine j_icmp_ne K dX7_hire_64 (fun c64 => ?_) (fun c64 => ?_)
    · replace h := ie c64 h
      refine j_aload_n K dX7_hire_71 rfl 0 rfl ?_
      obtain ⟨v72, e72, h⟩ := bd h
      refine fgX7_10 K dX7_hire_72 e72 ?_
      refine j_iload K dX7_hire_75 6 rfl ?_
      refine j_iload_n K dX7_hire_77 rfl 3 rfl ?_
      obtain ⟨o78, ew78, hz78⟩ := bd h
      obtain ⟨er78, ho78⟩ := ob_some ew78
      subst er78
      have h := hz78
      obtain ⟨v78, S78, e78, h⟩ := bd2 h
      refine j_cI (st := []) K (r_V (vs := [vI x6, vI x3]) (n := 2) (o := o78) K (c_X0_price e78) ho78 (by decide) rfl dX7_hire_78 z607 z608 z609 z2 z610 ⟨zd_X0_price, rfl, rfl, rfl, ⟨Nat.le_of_ble_eq_true rfl, Nat.le_of_ble_eq_true rfl⟩, Nat.le_of_ble_eq_true rfl, Nat.le_of_ble_eq_true rfl, Nat.le_of_ble_eq_true rfl⟩) rfl ?_
      exact w_X7_hire_81 K X hk49 h
    · replace h := it c64 h
      refine j_iconst (v := (-1 : Int32)) K dX7_hire_67 (by decide) ?_
      refine j_goto K dX7_hire_68 ?_
      exact w_X7_hire_81 K X hk49 h
def B_X7_hire_49 (fu : Nat) (o : Nat) (x1 : Int32) (x2 : Int32) (x3 : Int32) : Nat → Hp → Int32 → Int32 → Int32 → Option (Int32 × Hp)
  | 0 => fun _ _ _ _ => none
  | n + 1 => L_X7_hire_49 (B_X7_hire_49 fu o x1 x2 x3 n) fu o x1 x2 x3
theorem w_X7_hire_49 {E : Cx} {l : Launch} {res : Int32 × Hp} {ad : Nat → Nat} {fu : Nat} {o : Nat} {x1 : Int32} {x2 : Int32} {x3 : Int32} (K : Kx E cX7_hire RX7 (rmd 4 0 0)) (X : Bx E l yX7_hire 8 (some .int) 0 0 ad (QI res)) : ∀ (n : Nat) (S : Hp) (x4 : Int32) (x5 : Int32) (x6 : Int32), B_X7_hire_49 fu o x1 x2 x3 n S x4 x5 x6 = some res → J E 0 0 49 [(0, vR (some o)), (1, vI x1), (2, vI x2), (3, vI x3), (4, vI x4), (5, vI x5), (6, vI x6)] [] S ad := by
  intro n
  induction n with
  | zero =>
    intro S x4 x5 x6 h
    cases h
  | succ n ih =>
    intro S x4 x5 x6 h
    exact wl_X7_hire_49 K X ih h
def F_X7_hire (fu : Nat) (S : Hp) (o : Nat) (x1 : Int32) (x2 : Int32) : Option (Int32 × Hp) :=
  (gR S (some o) 5 0).bind fun v1 =>
  (ob S 0 v1).bind fun o5 =>
  b2 (F_X0_hasPerson S o5 x1) fun v5 S5 =>
  if v5 = 0 then
    some ((-5 : Int32), S5)
  else
    b2 (F_X7_isZeroOrOne S5 x2) fun v15 S15 =>
    if v15 = 0 then
      some ((-7 : Int32), S15)
    else
      (gR S15 (some o) 5 0).bind fun v25 =>
      (gR S15 (some o) 5 0).bind fun v29 =>
      (gR S15 v29 0 6).bind fun v32 =>
      (ob S15 0 v25).bind fun o36 =>
      b2 (F_X0_wrongsWith fu S15 o36 v32 x1) fun v36 S36 =>
      B_X7_hire_49 fu o x1 x2 v36 fu S36 (-1 : Int32) (-1 : Int32) (0 : Int32)
set_option maxRecDepth 100000 in
set_option maxHeartbeats 4000000 in
theorem w_X7_hire {E : Cx} {l : Launch} {res : Int32 × Hp} {ad : Nat → Nat} {fu : Nat} {S : Hp} {o : Nat} {x1 : Int32} {x2 : Int32} (K : Kx E cX7_hire RX7 (rmd 4 0 0)) (X : Bx E l yX7_hire 8 (some .int) 0 0 ad (QI res)) (h : F_X7_hire fu S o x1 x2 = some res) : J E 0 0 0 [(0, vR (some o)), (1, vI x1), (2, vI x2)] [] S ad := by
  refine j_aload_n K dX7_hire_0 rfl 0 rfl ?_
  obtain ⟨v1, e1, h⟩ := bd h
  refine fgX7_10 K dX7_hire_1 e1 ?_
  refine j_iload_n K dX7_hire_4 rfl 1 rfl ?_
  obtain ⟨o5, ew5, hz5⟩ := bd h
  obtain ⟨er5, ho5⟩ := ob_some ew5
  subst er5
  have h := hz5
  obtain ⟨v5, S5, e5, h⟩ := bd2 h
  refine j_cI (st := []) K (r_V (vs := [vI x1]) (n := 1) (o := o5) K (c_X0_hasPerson e5) ho5 (by decide) rfl dX7_hire_5 z461 z462 z463 z2 z464 ⟨zd_X0_hasPerson, rfl, rfl, rfl, ⟨Nat.le_of_ble_eq_true rfl, Nat.le_of_ble_eq_true rfl⟩, Nat.le_of_ble_eq_true rfl, Nat.le_of_ble_eq_true rfl, Nat.le_of_ble_eq_true rfl⟩) rfl ?_
  refine j_if_ne K dX7_hire_8 (fun c8 => ?_) (fun c8 => ?_)
  · replace h := ie c8 h
    refine j_iload_n K dX7_hire_14 rfl 2 rfl ?_
    obtain ⟨v15, S15, e15, h⟩ := bd2 h
    refine j_cI (st := []) K (r_S (vs := [vI x2]) (n := 1) K (c_X7_isZeroOrOne e15) dX7_hire_15 z497 z498 z1 z499 ⟨zd_X7_isZeroOrOne, rfl, rfl, rfl, ⟨Nat.le_of_ble_eq_true rfl, Nat.le_of_ble_eq_true rfl⟩, Nat.le_of_ble_eq_true rfl, Nat.le_of_ble_eq_true rfl, Nat.le_of_ble_eq_true rfl⟩) rfl ?_
    refine j_if_ne K dX7_hire_18 (fun c18 => ?_) (fun c18 => ?_)
    · replace h := ie c18 h
      refine j_aload_n K dX7_hire_24 rfl 0 rfl ?_
      obtain ⟨v25, e25, h⟩ := bd h
      refine fgX7_10 K dX7_hire_25 e25 ?_
      refine j_aload_n K dX7_hire_28 rfl 0 rfl ?_
      obtain ⟨v29, e29, h⟩ := bd h
      refine fgX7_10 K dX7_hire_29 e29 ?_
      obtain ⟨v32, e32, h⟩ := bd h
      refine fgX7_113 K dX7_hire_32 e32 ?_
      refine j_iload_n K dX7_hire_35 rfl 1 rfl ?_
      obtain ⟨o36, ew36, hz36⟩ := bd h
      obtain ⟨er36, ho36⟩ := ob_some ew36
      subst er36
      have h := hz36
      obtain ⟨v36, S36, e36, h⟩ := bd2 h
      refine j_cI (st := []) K (r_V (vs := [vR v32, vI x1]) (n := 2) (o := o36) K (c_X0_wrongsWith e36) ho36 (by decide) rfl dX7_hire_36 z505 z506 z507 z2 z508 ⟨zd_X0_wrongsWith, rfl, rfl, rfl, ⟨Nat.le_of_ble_eq_true rfl, Nat.le_of_ble_eq_true rfl⟩, Nat.le_of_ble_eq_true rfl, Nat.le_of_ble_eq_true rfl, Nat.le_of_ble_eq_true rfl⟩) rfl ?_
      refine j_istore_n (lv' := [(3, vI v36), (0, vR (some o)), (1, vI x1), (2, vI x2)]) K dX7_hire_39 rfl X.2.2.1 (by decide) rfl ?_
      refine j_iconst (v := (-1 : Int32)) K dX7_hire_40 (by decide) ?_
      refine j_istore (lv' := [(4, vI (-1 : Int32)), (3, vI v36), (0, vR (some o)), (1, vI x1), (2, vI x2)]) K dX7_hire_41 X.2.2.1 (by decide) rfl ?_
      refine j_iconst (v := (-1 : Int32)) K dX7_hire_43 (by decide) ?_
      refine j_istore (lv' := [(5, vI (-1 : Int32)), (4, vI (-1 : Int32)), (3, vI v36), (0, vR (some o)), (1, vI x1), (2, vI x2)]) K dX7_hire_44 X.2.2.1 (by decide) rfl ?_
      refine j_iconst (v := (0 : Int32)) K dX7_hire_46 (by decide) ?_
      refine j_istore (lv' := [(6, vI (0 : Int32)), (5, vI (-1 : Int32)), (4, vI (-1 : Int32)), (3, vI v36), (0, vR (some o)), (1, vI x1), (2, vI x2)]) K dX7_hire_47 X.2.2.1 (by decide) rfl ?_
      exact j_sub [4, 5, 6, 3, 2, 1, 0] rfl (w_X7_hire_49 K X _ _ _ _ _ h)
    · replace h := it c18 h
      refine j_bipush (v := (-7 : Int32)) K dX7_hire_21 (by decide) ?_
      exact j_iret K X dX7_hire_23 h
  · replace h := it c8 h
    refine j_bipush (v := (-5 : Int32)) K dX7_hire_11 (by decide) ?_
    exact j_iret K X dX7_hire_13 h
theorem c_X7_hire {l : Launch} {fu : Nat} {S : Hp} {o : Nat} {x1 : Int32} {x2 : Int32} {res : Int32 × Hp} (h : F_X7_hire fu S o x1 x2 = some res) : Ct l yX7_hire cX7_hire 8 (some .int) (rmd 4 0 0) 0 0 [vR (some o), vI x1, vI x2] S (QI res) :=
  z_entry (by decide +kernel) (Nat.le_of_ble_eq_true rfl) (fun E ad K X => w_X7_hire K X h)

theorem dX7_away_0 : decode cX7_away 0 = .ok (.iload_n 1, 1) ∧ 0 + 1 = 1 := ⟨by decide +kernel, rfl⟩
theorem dX7_away_1 : decode cX7_away 1 = .ok (.invokestatic 155, 3) := by decide +kernel
theorem dX7_away_4 : decode cX7_away 4 = .ok (.ifCond .ne 6, 3) ∧ 4 + 3 = 7 ∧ ((4 : Nat) : Int) + (6) = ((10 : Nat) : Int) := ⟨by decide +kernel, rfl, by decide⟩
theorem dX7_away_7 : decode cX7_away 7 = .ok (.bipush (-2), 2) ∧ 7 + 2 = 9 := ⟨by decide +kernel, rfl⟩
theorem dX7_away_9 : decode cX7_away 9 = .ok (.ireturn, 1) := by decide +kernel
theorem dX7_away_10 : decode cX7_away 10 = .ok (.iconst (-1), 1) ∧ 10 + 1 = 11 := ⟨by decide +kernel, rfl⟩
theorem dX7_away_11 : decode cX7_away 11 = .ok (.istore_n 2, 1) ∧ 11 + 1 = 12 := ⟨by decide +kernel, rfl⟩
theorem dX7_away_12 : decode cX7_away 12 = .ok (.aload_n 0, 1) ∧ 12 + 1 = 13 := ⟨by decide +kernel, rfl⟩
theorem dX7_away_13 : decode cX7_away 13 = .ok (.getfield 10, 3) ∧ 13 + 3 = 16 := ⟨by decide +kernel, rfl⟩
theorem dX7_away_16 : decode cX7_away 16 = .ok (.invokevirtual 227, 3) := by decide +kernel
theorem dX7_away_19 : decode cX7_away 19 = .ok (.istore_n 3, 1) ∧ 19 + 1 = 20 := ⟨by decide +kernel, rfl⟩
theorem dX7_away_20 : decode cX7_away 20 = .ok (.iconst 0, 1) ∧ 20 + 1 = 21 := ⟨by decide +kernel, rfl⟩
theorem dX7_away_21 : decode cX7_away 21 = .ok (.istore 4, 2) ∧ 21 + 2 = 23 := ⟨by decide +kernel, rfl⟩
theorem dX7_away_23 : decode cX7_away 23 = .ok (.iload 4, 2) ∧ 23 + 2 = 25 := ⟨by decide +kernel, rfl⟩
theorem dX7_away_25 : decode cX7_away 25 = .ok (.aload_n 0, 1) ∧ 25 + 1 = 26 := ⟨by decide +kernel, rfl⟩
theorem dX7_away_26 : decode cX7_away 26 = .ok (.getfield 10, 3) ∧ 26 + 3 = 29 := ⟨by decide +kernel, rfl⟩
theorem dX7_away_29 : decode cX7_away 29 = .ok (.getfield 90, 3) ∧ 29 + 3 = 32 := ⟨by decide +kernel, rfl⟩
theorem dX7_away_32 : decode cX7_away 32 = .ok (.if_icmp .ge 50, 3) ∧ 32 + 3 = 35 ∧ ((32 : Nat) : Int) + (50) = ((82 : Nat) : Int) := ⟨by decide +kernel, rfl, by decide⟩
theorem dX7_away_35 : decode cX7_away 35 = .ok (.aload_n 0, 1) ∧ 35 + 1 = 36 := ⟨by decide +kernel, rfl⟩
theorem dX7_away_36 : decode cX7_away 36 = .ok (.getfield 16, 3) ∧ 36 + 3 = 39 := ⟨by decide +kernel, rfl⟩
theorem dX7_away_39 : decode cX7_away 39 = .ok (.aload_n 0, 1) ∧ 39 + 1 = 40 := ⟨by decide +kernel, rfl⟩
theorem dX7_away_40 : decode cX7_away 40 = .ok (.getfield 10, 3) ∧ 40 + 3 = 43 := ⟨by decide +kernel, rfl⟩
theorem dX7_away_43 : decode cX7_away 43 = .ok (.invokevirtual 230, 3) := by decide +kernel
theorem dX7_away_46 : decode cX7_away 46 = .ok (.aload_n 0, 1) ∧ 46 + 1 = 47 := ⟨by decide +kernel, rfl⟩
theorem dX7_away_47 : decode cX7_away 47 = .ok (.getfield 16, 3) ∧ 47 + 3 = 50 := ⟨by decide +kernel, rfl⟩
theorem dX7_away_50 : decode cX7_away 50 = .ok (.iload 4, 2) ∧ 50 + 2 = 52 := ⟨by decide +kernel, rfl⟩
theorem dX7_away_52 : decode cX7_away 52 = .ok (.invokevirtual 234, 3) := by decide +kernel
theorem dX7_away_55 : decode cX7_away 55 = .ok (.aload_n 0, 1) ∧ 55 + 1 = 56 := ⟨by decide +kernel, rfl⟩
theorem dX7_away_56 : decode cX7_away 56 = .ok (.getfield 16, 3) ∧ 56 + 3 = 59 := ⟨by decide +kernel, rfl⟩
theorem dX7_away_59 : decode cX7_away 59 = .ok (.invokevirtual 227, 3) := by decide +kernel
theorem dX7_away_62 : decode cX7_away 62 = .ok (.istore 5, 2) ∧ 62 + 2 = 64 := ⟨by decide +kernel, rfl⟩
theorem dX7_away_64 : decode cX7_away 64 = .ok (.iload 5, 2) ∧ 64 + 2 = 66 := ⟨by decide +kernel, rfl⟩
theorem dX7_away_66 : decode cX7_away 66 = .ok (.iload_n 3, 1) ∧ 66 + 1 = 67 := ⟨by decide +kernel, rfl⟩
theorem dX7_away_67 : decode cX7_away 67 = .ok (.if_icmp .le 9, 3) ∧ 67 + 3 = 70 ∧ ((67 : Nat) : Int) + (9) = ((76 : Nat) : Int) := ⟨by decide +kernel, rfl, by decide⟩
theorem dX7_away_70 : decode cX7_away 70 = .ok (.iload 5, 2) ∧ 70 + 2 = 72 := ⟨by decide +kernel, rfl⟩
theorem dX7_away_72 : decode cX7_away 72 = .ok (.istore_n 3, 1) ∧ 72 + 1 = 73 := ⟨by decide +kernel, rfl⟩
theorem dX7_away_73 : decode cX7_away 73 = .ok (.iload 4, 2) ∧ 73 + 2 = 75 := ⟨by decide +kernel, rfl⟩
theorem dX7_away_75 : decode cX7_away 75 = .ok (.istore_n 2, 1) ∧ 75 + 1 = 76 := ⟨by decide +kernel, rfl⟩
theorem dX7_away_76 : decode cX7_away 76 = .ok (.iinc 4 1, 3) ∧ 76 + 3 = 79 := ⟨by decide +kernel, rfl⟩
theorem dX7_away_79 : decode cX7_away 79 = .ok (.goto (-56), 3) ∧ ((79 : Nat) : Int) + (-56) = ((23 : Nat) : Int) := ⟨by decide +kernel, by decide⟩
theorem dX7_away_82 : decode cX7_away 82 = .ok (.iload_n 1, 1) ∧ 82 + 1 = 83 := ⟨by decide +kernel, rfl⟩
theorem dX7_away_83 : decode cX7_away 83 = .ok (.ifCond .ne 7, 3) ∧ 83 + 3 = 86 ∧ ((83 : Nat) : Int) + (7) = ((90 : Nat) : Int) := ⟨by decide +kernel, rfl, by decide⟩
theorem dX7_away_86 : decode cX7_away 86 = .ok (.iload_n 2, 1) ∧ 86 + 1 = 87 := ⟨by decide +kernel, rfl⟩
theorem dX7_away_87 : decode cX7_away 87 = .ok (.goto 4, 3) ∧ ((87 : Nat) : Int) + (4) = ((91 : Nat) : Int) := ⟨by decide +kernel, by decide⟩
theorem dX7_away_90 : decode cX7_away 90 = .ok (.iload_n 3, 1) ∧ 90 + 1 = 91 := ⟨by decide +kernel, rfl⟩
theorem dX7_away_91 : decode cX7_away 91 = .ok (.ireturn, 1) := by decide +kernel
def B_X7_away_76 (k23 : Hp → Int32 → Int32 → Int32 → Option (Int32 × Hp)) (fu : Nat) (o : Nat) (S : Hp) (x1 : Int32) (x2 : Int32) (x3 : Int32) (x4 : Int32) : Option (Int32 × Hp) :=
  k23 S x2 x3 (x4 + (1 : Int32))
set_option maxRecDepth 100000 in
set_option maxHeartbeats 4000000 in
theorem w_X7_away_76 {E : Cx} {l : Launch} {res : Int32 × Hp} {ad : Nat → Nat} {k23 : Hp → Int32 → Int32 → Int32 → Option (Int32 × Hp)} {fu : Nat} {o : Nat} {S : Hp} {x1 : Int32} {x2 : Int32} {x3 : Int32} {x4 : Int32} (K : Kx E cX7_away RX7 (rmd 6 0 0)) (X : Bx E l yX7_away 6 (some .int) 0 0 ad (QI res)) (hk23 : ∀ (S : Hp) (x2 : Int32) (x3 : Int32) (x4 : Int32), k23 S x2 x3 x4 = some res → J E 0 0 23 [(0, vR (some o)), (1, vI x1), (2, vI x2), (3, vI x3), (4, vI x4)] [] S ad) (h : B_X7_away_76 k23 fu o S x1 x2 x3 x4 = some res) : J E 0 0 76 [(0, vR (some o)), (1, vI x1), (2, vI x2), (3, vI x3), (4, vI x4)] [] S ad := by
  refine j_iinc (q := 4) (v := (x4 + (1 : Int32))) (lv' := [(4, vI (x4 + (1 : Int32))), (0, vR (some o)), (1, vI x1), (2, vI x2), (3, vI x3)]) K dX7_away_76 rfl rfl X.2.2.1 (by decide) rfl ?_
  refine j_goto K dX7_away_79 ?_
  exact j_sub [1, 2, 3, 4, 0] rfl (hk23 _ _ _ _ h)
def B_X7_away_91 (fu : Nat) (o : Nat) (S : Hp) (s0 : Int32) : Option (Int32 × Hp) :=
  some (s0, S)
set_option maxRecDepth 100000 in
set_option maxHeartbeats 4000000 in
theorem w_X7_away_91 {E : Cx} {l : Launch} {res : Int32 × Hp} {ad : Nat → Nat} {fu : Nat} {o : Nat} {S : Hp} {s0 : Int32} (K : Kx E cX7_away RX7 (rmd 6 0 0)) (X : Bx E l yX7_away 6 (some .int) 0 0 ad (QI res)) (h : B_X7_away_91 fu o S s0 = some res) : J E 0 0 91 [] [vI s0] S ad := by
  exact j_iret K X dX7_away_91 h
def L_X7_away_23 (k23 : Hp → Int32 → Int32 → Int32 → Option (Int32 × Hp)) (fu : Nat) (o : Nat) (x1 : Int32) (S : Hp) (x2 : Int32) (x3 : Int32) (x4 : Int32) : Option (Int32 × Hp) :=
  (gR S (some o) 5 0).bind fun v26 =>
  (gI S v26 0 0).bind fun v29 =>
  if v29 ≤ x4 then
    if x1 = 0 then
      B_X7_away_91 fu o S x2
    else
      B_X7_away_91 fu o S x3
  else
    (gR S (some o) 5 1).bind fun v36 =>
    (gR S (some o) 5 0).bind fun v40 =>
    (ob S 0 v36).bind fun o43 =>
    (F_X0_takeFrom fu S o43 v40).bind fun S43 =>
    (gR S43 (some o) 5 1).bind fun v47 =>
    (ob S43 0 v47).bind fun o52 =>
    (F_X0_blind fu S43 o52 x4).bind fun S52 =>
    (gR S52 (some o) 5 1).bind fun v56 =>
    (ob S52 0 v56).bind fun o59 =>
    b2 (F_X0_thoughtOfAll fu S52 o59) fun v59 S59 =>
    if v59 ≤ x3 then
      B_X7_away_76 k23 fu o S59 x1 x2 x3 x4
    else
      B_X7_away_76 k23 fu o S59 x1 x4 v59 x4
set_option maxRecDepth 100000 in
set_option maxHeartbeats 4000000 in
theorem wl_X7_away_23 {E : Cx} {l : Launch} {res : Int32 × Hp} {ad : Nat → Nat} {k23 : Hp → Int32 → Int32 → Int32 → Option (Int32 × Hp)} {fu : Nat} {o : Nat} {S : Hp} {x1 : Int32} {x2 : Int32} {x3 : Int32} {x4 : Int32} (K : Kx E cX7_away RX7 (rmd 6 0 0)) (X : Bx E l yX7_away 6 (some .int) 0 0 ad (QI res)) (hk23 : ∀ (S : Hp) (x2 : Int32) (x3 : Int32) (x4 : Int32), k23 S x2 x3 x4 = some res → J E 0 0 23 [(0, vR (some o)), (1, vI x1), (2, vI x2), (3, vI x3), (4, vI x4)] [] S ad) (h : L_X7_away_23 k23 fu o x1 S x2 x3 x4 = some res) : J E 0 0 23 [(0, vR (some o)), (1, vI x1), (2, vI x2), (3, vI x3), (4, vI x4)] [] S ad := by
  refine j_iload K dX7_away_23 4 rfl ?_
  refine j_aload_n K dX7_away_25 rfl 0 rfl ?_
  obtain ⟨v26, e26, h⟩ := bd h
  refine fgX7_10 K dX7_away_26 e26 ?_
  obtain ⟨v29, e29, h⟩ := bd h
  refine fgX7_90 K dX7_away_29 e29 ?_
  refine j_icmp_ge K dX7_away_32 (fun c32 => ?_) (fun c32 => ?_)
  · replace h := it c32 h
    refine j_iload_n K dX7_away_82 rfl 1 rfl ?_
    refine j_if_ne K dX7_away_83 (fun c83 => ?_) (fun c83 => ?_)
    · replace h := ie c83 h
      refine j_iload_n K dX7_away_90 rfl 3 rfl ?_
      exact j_sub [] rfl (w_X7_away_91 K X h)
    · replace h := it c83 h
      refine j_iload_n K dX7_away_86 rfl 2 rfl ?_
      refine j_goto K dX7_away_87 ?_
      exact j_sub [] rfl (w_X7_away_91 K X h)
  · replace h := ie c32 h
    refine j_aload_n K dX7_away_35 rfl 0 rfl ?_
    obtain ⟨v36, e36, h⟩ := bd h
    refine fgX7_16 K dX7_away_36 e36 ?_
    refine j_aload_n K dX7_away_39 rfl 0 rfl ?_
    obtain ⟨v40, e40, h⟩ := bd h
    refine fgX7_10 K dX7_away_40 e40 ?_
    obtain ⟨o43, ew43, hz43⟩ := bd h
    obtain ⟨er43, ho43⟩ := ob_some ew43
    subst er43
    have h := hz43
    obtain ⟨S43, e43, h⟩ := bd h
    refine j_cV (st := []) K (r_V (vs := [vR v40]) (n := 1) (o := o43) K (c_X0_takeFrom e43) ho43 (by decide) rfl dX7_away_43 z622 z623 z624 z2 z625 ⟨zd_X0_takeFrom, rfl, rfl, rfl, ⟨Nat.le_of_ble_eq_true rfl, Nat.le_of_ble_eq_true rfl⟩, Nat.le_of_ble_eq_true rfl, Nat.le_of_ble_eq_true rfl, Nat.le_of_ble_eq_true rfl⟩) rfl ?_
    refine j_aload_n K dX7_away_46 rfl 0 rfl ?_
    obtain ⟨v47, e47, h⟩ := bd h
    refine fgX7_16 K dX7_away_47 e47 ?_
    refine j_iload K dX7_away_50 4 rfl ?_
    obtain ⟨o52, ew52, hz52⟩ := bd h
    obtain ⟨er52, ho52⟩ := ob_some ew52
    subst er52
    have h := hz52
    obtain ⟨S52, e52, h⟩ := bd h
    refine j_cV (st := []) K (r_V (vs := [vI x4]) (n := 1) (o := o52) K (c_X0_blind e52) ho52 (by decide) rfl dX7_away_52 z626 z627 z628 z2 z629 ⟨zd_X0_blind, rfl, rfl, rfl, ⟨Nat.le_of_ble_eq_true rfl, Nat.le_of_ble_eq_true rfl⟩, Nat.le_of_ble_eq_true rfl, Nat.le_of_ble_eq_true rfl, Nat.le_of_ble_eq_true rfl⟩) rfl ?_
    refine j_aload_n K dX7_away_55 rfl 0 rfl ?_
    obtain ⟨v56, e56, h⟩ := bd h
    refine fgX7_16 K dX7_away_56 e56 ?_
    obtain ⟨o59, ew59, hz59⟩ := bd h
    obtain ⟨er59, ho59⟩ := ob_some ew59
    subst er59
    have h := hz59
    obtain ⟨v59, S59, e59, h⟩ := bd2 h
    refine j_cI (st := []) K (r_V (vs := []) (n := 0) (o := o59) K (c_X0_thoughtOfAll e59) ho59 (by decide) rfl dX7_away_59 z618 z619 z620 z2 z621 ⟨zd_X0_thoughtOfAll, rfl, rfl, rfl, ⟨Nat.le_of_ble_eq_true rfl, Nat.le_of_ble_eq_true rfl⟩, Nat.le_of_ble_eq_true rfl, Nat.le_of_ble_eq_true rfl, Nat.le_of_ble_eq_true rfl⟩) rfl ?_
    refine j_istore (lv' := [(5, vI v59), (0, vR (some o)), (1, vI x1), (2, vI x2), (3, vI x3), (4, vI x4)]) K dX7_away_62 X.2.2.1 (by decide) rfl ?_
    refine j_iload K dX7_away_64 0 rfl ?_
    refine j_iload_n K dX7_away_66 rfl 4 rfl ?_
    refine j_icmp_le K dX7_away_67 (fun c67 => ?_) (fun c67 => ?_)
    · replace h := it c67 h
      exact j_sub [1, 2, 3, 4, 5] rfl (w_X7_away_76 K X hk23 h)
    · replace h := ie c67 h
      refine j_iload K dX7_away_70 0 rfl ?_
      refine j_istore_n (lv' := [(3, vI v59), (5, vI v59), (0, vR (some o)), (1, vI x1), (2, vI x2), (4, vI x4)]) K dX7_away_72 rfl X.2.2.1 (by decide) rfl ?_
      refine j_iload K dX7_away_73 5 rfl ?_
      refine j_istore_n (lv' := [(2, vI x4), (3, vI v59), (5, vI v59), (0, vR (some o)), (1, vI x1), (4, vI x4)]) K dX7_away_75 rfl X.2.2.1 (by decide) rfl ?_
      exact j_sub [3, 4, 0, 1, 5] rfl (w_X7_away_76 K X hk23 h)
def B_X7_away_23 (fu : Nat) (o : Nat) (x1 : Int32) : Nat → Hp → Int32 → Int32 → Int32 → Option (Int32 × Hp)
  | 0 => fun _ _ _ _ => none
  | n + 1 => L_X7_away_23 (B_X7_away_23 fu o x1 n) fu o x1
theorem w_X7_away_23 {E : Cx} {l : Launch} {res : Int32 × Hp} {ad : Nat → Nat} {fu : Nat} {o : Nat} {x1 : Int32} (K : Kx E cX7_away RX7 (rmd 6 0 0)) (X : Bx E l yX7_away 6 (some .int) 0 0 ad (QI res)) : ∀ (n : Nat) (S : Hp) (x2 : Int32) (x3 : Int32) (x4 : Int32), B_X7_away_23 fu o x1 n S x2 x3 x4 = some res → J E 0 0 23 [(0, vR (some o)), (1, vI x1), (2, vI x2), (3, vI x3), (4, vI x4)] [] S ad := by
  intro n
  induction n with
  | zero =>
    intro S x2 x3 x4 h
    cases h
  | succ n ih =>
    intro S x2 x3 x4 h
    exact wl_X7_away_23 K X ih h
def F_X7_away (fu : Nat) (S : Hp) (o : Nat) (x1 : Int32) : Option (Int32 × Hp) :=
  b2 (F_X7_isZeroOrOne S x1) fun v1 S1 =>
  if v1 = 0 then
    some ((-2 : Int32), S1)
  else
    (gR S1 (some o) 5 0).bind fun v13 =>
    (ob S1 0 v13).bind fun o16 =>
    b2 (F_X0_thoughtOfAll fu S1 o16) fun v16 S16 =>
    B_X7_away_23 fu o x1 fu S16 (-1 : Int32) v16 (0 : Int32)
set_option maxRecDepth 100000 in
set_option maxHeartbeats 4000000 in
theorem w_X7_away {E : Cx} {l : Launch} {res : Int32 × Hp} {ad : Nat → Nat} {fu : Nat} {S : Hp} {o : Nat} {x1 : Int32} (K : Kx E cX7_away RX7 (rmd 6 0 0)) (X : Bx E l yX7_away 6 (some .int) 0 0 ad (QI res)) (h : F_X7_away fu S o x1 = some res) : J E 0 0 0 [(0, vR (some o)), (1, vI x1)] [] S ad := by
  refine j_iload_n K dX7_away_0 rfl 1 rfl ?_
  obtain ⟨v1, S1, e1, h⟩ := bd2 h
  refine j_cI (st := []) K (r_S (vs := [vI x1]) (n := 1) K (c_X7_isZeroOrOne e1) dX7_away_1 z497 z498 z1 z499 ⟨zd_X7_isZeroOrOne, rfl, rfl, rfl, ⟨Nat.le_of_ble_eq_true rfl, Nat.le_of_ble_eq_true rfl⟩, Nat.le_of_ble_eq_true rfl, Nat.le_of_ble_eq_true rfl, Nat.le_of_ble_eq_true rfl⟩) rfl ?_
  refine j_if_ne K dX7_away_4 (fun c4 => ?_) (fun c4 => ?_)
  · replace h := ie c4 h
    refine j_iconst (v := (-1 : Int32)) K dX7_away_10 (by decide) ?_
    refine j_istore_n (lv' := [(2, vI (-1 : Int32)), (0, vR (some o)), (1, vI x1)]) K dX7_away_11 rfl X.2.2.1 (by decide) rfl ?_
    refine j_aload_n K dX7_away_12 rfl 1 rfl ?_
    obtain ⟨v13, e13, h⟩ := bd h
    refine fgX7_10 K dX7_away_13 e13 ?_
    obtain ⟨o16, ew16, hz16⟩ := bd h
    obtain ⟨er16, ho16⟩ := ob_some ew16
    subst er16
    have h := hz16
    obtain ⟨v16, S16, e16, h⟩ := bd2 h
    refine j_cI (st := []) K (r_V (vs := []) (n := 0) (o := o16) K (c_X0_thoughtOfAll e16) ho16 (by decide) rfl dX7_away_16 z618 z619 z620 z2 z621 ⟨zd_X0_thoughtOfAll, rfl, rfl, rfl, ⟨Nat.le_of_ble_eq_true rfl, Nat.le_of_ble_eq_true rfl⟩, Nat.le_of_ble_eq_true rfl, Nat.le_of_ble_eq_true rfl, Nat.le_of_ble_eq_true rfl⟩) rfl ?_
    refine j_istore_n (lv' := [(3, vI v16), (2, vI (-1 : Int32)), (0, vR (some o)), (1, vI x1)]) K dX7_away_19 rfl X.2.2.1 (by decide) rfl ?_
    refine j_iconst (v := (0 : Int32)) K dX7_away_20 (by decide) ?_
    refine j_istore (lv' := [(4, vI (0 : Int32)), (3, vI v16), (2, vI (-1 : Int32)), (0, vR (some o)), (1, vI x1)]) K dX7_away_21 X.2.2.1 (by decide) rfl ?_
    exact j_sub [3, 4, 2, 1, 0] rfl (w_X7_away_23 K X _ _ _ _ _ h)
  · replace h := it c4 h
    refine j_bipush (v := (-2 : Int32)) K dX7_away_7 (by decide) ?_
    exact j_iret K X dX7_away_9 h
theorem c_X7_away {l : Launch} {fu : Nat} {S : Hp} {o : Nat} {x1 : Int32} {res : Int32 × Hp} (h : F_X7_away fu S o x1 = some res) : Ct l yX7_away cX7_away 6 (some .int) (rmd 6 0 0) 0 0 [vR (some o), vI x1] S (QI res) :=
  z_entry (by decide +kernel) (Nat.le_of_ble_eq_true rfl) (fun E ad K X => w_X7_away K X h)

theorem dX7_undone_0 : decode cX7_undone 0 = .ok (.iload_n 1, 1) ∧ 0 + 1 = 1 := ⟨by decide +kernel, rfl⟩
theorem dX7_undone_1 : decode cX7_undone 1 = .ok (.invokestatic 155, 3) := by decide +kernel
theorem dX7_undone_4 : decode cX7_undone 4 = .ok (.ifCond .ne 6, 3) ∧ 4 + 3 = 7 ∧ ((4 : Nat) : Int) + (6) = ((10 : Nat) : Int) := ⟨by decide +kernel, rfl, by decide⟩
theorem dX7_undone_7 : decode cX7_undone 7 = .ok (.bipush (-2), 2) ∧ 7 + 2 = 9 := ⟨by decide +kernel, rfl⟩
theorem dX7_undone_9 : decode cX7_undone 9 = .ok (.ireturn, 1) := by decide +kernel
theorem dX7_undone_10 : decode cX7_undone 10 = .ok (.iconst (-1), 1) ∧ 10 + 1 = 11 := ⟨by decide +kernel, rfl⟩
theorem dX7_undone_11 : decode cX7_undone 11 = .ok (.istore_n 2, 1) ∧ 11 + 1 = 12 := ⟨by decide +kernel, rfl⟩
theorem dX7_undone_12 : decode cX7_undone 12 = .ok (.aload_n 0, 1) ∧ 12 + 1 = 13 := ⟨by decide +kernel, rfl⟩
theorem dX7_undone_13 : decode cX7_undone 13 = .ok (.getfield 10, 3) ∧ 13 + 3 = 16 := ⟨by decide +kernel, rfl⟩
theorem dX7_undone_16 : decode cX7_undone 16 = .ok (.invokevirtual 227, 3) := by decide +kernel
theorem dX7_undone_19 : decode cX7_undone 19 = .ok (.istore_n 3, 1) ∧ 19 + 1 = 20 := ⟨by decide +kernel, rfl⟩
theorem dX7_undone_20 : decode cX7_undone 20 = .ok (.iconst 0, 1) ∧ 20 + 1 = 21 := ⟨by decide +kernel, rfl⟩
theorem dX7_undone_21 : decode cX7_undone 21 = .ok (.istore 4, 2) ∧ 21 + 2 = 23 := ⟨by decide +kernel, rfl⟩
theorem dX7_undone_23 : decode cX7_undone 23 = .ok (.iload 4, 2) ∧ 23 + 2 = 25 := ⟨by decide +kernel, rfl⟩
theorem dX7_undone_25 : decode cX7_undone 25 = .ok (.aload_n 0, 1) ∧ 25 + 1 = 26 := ⟨by decide +kernel, rfl⟩
theorem dX7_undone_26 : decode cX7_undone 26 = .ok (.getfield 10, 3) ∧ 26 + 3 = 29 := ⟨by decide +kernel, rfl⟩
theorem dX7_undone_29 : decode cX7_undone 29 = .ok (.getfield 93, 3) ∧ 29 + 3 = 32 := ⟨by decide +kernel, rfl⟩
theorem dX7_undone_32 : decode cX7_undone 32 = .ok (.if_icmp .ge 50, 3) ∧ 32 + 3 = 35 ∧ ((32 : Nat) : Int) + (50) = ((82 : Nat) : Int) := ⟨by decide +kernel, rfl, by decide⟩
theorem dX7_undone_35 : decode cX7_undone 35 = .ok (.aload_n 0, 1) ∧ 35 + 1 = 36 := ⟨by decide +kernel, rfl⟩
theorem dX7_undone_36 : decode cX7_undone 36 = .ok (.getfield 16, 3) ∧ 36 + 3 = 39 := ⟨by decide +kernel, rfl⟩
theorem dX7_undone_39 : decode cX7_undone 39 = .ok (.aload_n 0, 1) ∧ 39 + 1 = 40 := ⟨by decide +kernel, rfl⟩
theorem dX7_undone_40 : decode cX7_undone 40 = .ok (.getfield 10, 3) ∧ 40 + 3 = 43 := ⟨by decide +kernel, rfl⟩
theorem dX7_undone_43 : decode cX7_undone 43 = .ok (.invokevirtual 230, 3) := by decide +kernel
theorem dX7_undone_46 : decode cX7_undone 46 = .ok (.aload_n 0, 1) ∧ 46 + 1 = 47 := ⟨by decide +kernel, rfl⟩
theorem dX7_undone_47 : decode cX7_undone 47 = .ok (.getfield 16, 3) ∧ 47 + 3 = 50 := ⟨by decide +kernel, rfl⟩
theorem dX7_undone_50 : decode cX7_undone 50 = .ok (.iload 4, 2) ∧ 50 + 2 = 52 := ⟨by decide +kernel, rfl⟩
theorem dX7_undone_52 : decode cX7_undone 52 = .ok (.invokevirtual 126, 3) := by decide +kernel
theorem dX7_undone_55 : decode cX7_undone 55 = .ok (.aload_n 0, 1) ∧ 55 + 1 = 56 := ⟨by decide +kernel, rfl⟩
theorem dX7_undone_56 : decode cX7_undone 56 = .ok (.getfield 16, 3) ∧ 56 + 3 = 59 := ⟨by decide +kernel, rfl⟩
theorem dX7_undone_59 : decode cX7_undone 59 = .ok (.invokevirtual 227, 3) := by decide +kernel
theorem dX7_undone_62 : decode cX7_undone 62 = .ok (.istore 5, 2) ∧ 62 + 2 = 64 := ⟨by decide +kernel, rfl⟩
theorem dX7_undone_64 : decode cX7_undone 64 = .ok (.iload 5, 2) ∧ 64 + 2 = 66 := ⟨by decide +kernel, rfl⟩
theorem dX7_undone_66 : decode cX7_undone 66 = .ok (.iload_n 3, 1) ∧ 66 + 1 = 67 := ⟨by decide +kernel, rfl⟩
theorem dX7_undone_67 : decode cX7_undone 67 = .ok (.if_icmp .le 9, 3) ∧ 67 + 3 = 70 ∧ ((67 : Nat) : Int) + (9) = ((76 : Nat) : Int) := ⟨by decide +kernel, rfl, by decide⟩
theorem dX7_undone_70 : decode cX7_undone 70 = .ok (.iload 5, 2) ∧ 70 + 2 = 72 := ⟨by decide +kernel, rfl⟩
theorem dX7_undone_72 : decode cX7_undone 72 = .ok (.istore_n 3, 1) ∧ 72 + 1 = 73 := ⟨by decide +kernel, rfl⟩
theorem dX7_undone_73 : decode cX7_undone 73 = .ok (.iload 4, 2) ∧ 73 + 2 = 75 := ⟨by decide +kernel, rfl⟩
theorem dX7_undone_75 : decode cX7_undone 75 = .ok (.istore_n 2, 1) ∧ 75 + 1 = 76 := ⟨by decide +kernel, rfl⟩
theorem dX7_undone_76 : decode cX7_undone 76 = .ok (.iinc 4 1, 3) ∧ 76 + 3 = 79 := ⟨by decide +kernel, rfl⟩
theorem dX7_undone_79 : decode cX7_undone 79 = .ok (.goto (-56), 3) ∧ ((79 : Nat) : Int) + (-56) = ((23 : Nat) : Int) := ⟨by decide +kernel, by decide⟩
theorem dX7_undone_82 : decode cX7_undone 82 = .ok (.iload_n 1, 1) ∧ 82 + 1 = 83 := ⟨by decide +kernel, rfl⟩
theorem dX7_undone_83 : decode cX7_undone 83 = .ok (.ifCond .ne 7, 3) ∧ 83 + 3 = 86 ∧ ((83 : Nat) : Int) + (7) = ((90 : Nat) : Int) := ⟨by decide +kernel, rfl, by decide⟩
theorem dX7_undone_86 : decode cX7_undone 86 = .ok (.iload_n 2, 1) ∧ 86 + 1 = 87 := ⟨by decide +kernel, rfl⟩
theorem dX7_undone_87 : decode cX7_undone 87 = .ok (.goto 4, 3) ∧ ((87 : Nat) : Int) + (4) = ((91 : Nat) : Int) := ⟨by decide +kernel, by decide⟩
theorem dX7_undone_90 : decode cX7_undone 90 = .ok (.iload_n 3, 1) ∧ 90 + 1 = 91 := ⟨by decide +kernel, rfl⟩
theorem dX7_undone_91 : decode cX7_undone 91 = .ok (.ireturn, 1) := by decide +kernel
def B_X7_undone_76 (k23 : Hp → Int32 → Int32 → Int32 → Option (Int32 × Hp)) (fu : Nat) (o : Nat) (S : Hp) (x1 : Int32) (x2 : Int32) (x3 : Int32) (x4 : Int32) : Option (Int32 × Hp) :=
  k23 S x2 x3 (x4 + (1 : Int32))
set_option maxRecDepth 100000 in
set_option maxHeartbeats 4000000 in
theorem w_X7_undone_76 {E : Cx} {l : Launch} {res : Int32 × Hp} {ad : Nat → Nat} {k23 : Hp → Int32 → Int32 → Int32 → Option (Int32 × Hp)} {fu : Nat} {o : Nat} {S : Hp} {x1 : Int32} {x2 : Int32} {x3 : Int32} {x4 : Int32} (K : Kx E cX7_undone RX7 (rmd 6 0 0)) (X : Bx E l yX7_undone 6 (some .int) 0 0 ad (QI res)) (hk23 : ∀ (S : Hp) (x2 : Int32) (x3 : Int32) (x4 : Int32), k23 S x2 x3 x4 = some res → J E 0 0 23 [(0, vR (some o)), (1, vI x1), (2, vI x2), (3, vI x3), (4, vI x4)] [] S ad) (h : B_X7_undone_76 k23 fu o S x1 x2 x3 x4 = some res) : J E 0 0 76 [(0, vR (some o)), (1, vI x1), (2, vI x2), (3, vI x3), (4, vI x4)] [] S ad := by
  refine j_iinc (q := 4) (v := (x4 + (1 : Int32))) (lv' := [(4, vI (x4 + (1 : Int32))), (0, vR (some o)), (1, vI x1), (2, vI x2), (3, vI x3)]) K dX7_undone_76 rfl rfl X.2.2.1 (by decide) rfl ?_
  refine j_goto K dX7_undone_79 ?_
  exact j_sub [1, 2, 3, 4, 0] rfl (hk23 _ _ _ _ h)
def B_X7_undone_91 (fu : Nat) (o : Nat) (S : Hp) (s0 : Int32) : Option (Int32 × Hp) :=
  some (s0, S)
set_option maxRecDepth 100000 in
set_option maxHeartbeats 4000000 in
theorem w_X7_undone_91 {E : Cx} {l : Launch} {res : Int32 × Hp} {ad : Nat → Nat} {fu : Nat} {o : Nat} {S : Hp} {s0 : Int32} (K : Kx E cX7_undone RX7 (rmd 6 0 0)) (X : Bx E l yX7_undone 6 (some .int) 0 0 ad (QI res)) (h : B_X7_undone_91 fu o S s0 = some res) : J E 0 0 91 [] [vI s0] S ad := by
  exact j_iret K X dX7_undone_91 h
def L_X7_undone_23 (k23 : Hp → Int32 → Int32 → Int32 → Option (Int32 × Hp)) (fu : Nat) (o : Nat) (x1 : Int32) (S : Hp) (x2 : Int32) (x3 : Int32) (x4 : Int32) : Option (Int32 × Hp) :=
  (gR S (some o) 5 0).bind fun v26 =>
  (gI S v26 0 5).bind fun v29 =>
  if v29 ≤ x4 then
    if x1 = 0 then
      B_X7_undone_91 fu o S x2
    else
      B_X7_undone_91 fu o S x3
  else
    (gR S (some o) 5 1).bind fun v36 =>
    (gR S (some o) 5 0).bind fun v40 =>
    (ob S 0 v36).bind fun o43 =>
    (F_X0_takeFrom fu S o43 v40).bind fun S43 =>
    (gR S43 (some o) 5 1).bind fun v47 =>
    (ob S43 0 v47).bind fun o52 =>
    (F_X0_drop fu S43 o52 x4).bind fun S52 =>
    (gR S52 (some o) 5 1).bind fun v56 =>
    (ob S52 0 v56).bind fun o59 =>
    b2 (F_X0_thoughtOfAll fu S52 o59) fun v59 S59 =>
    if v59 ≤ x3 then
      B_X7_undone_76 k23 fu o S59 x1 x2 x3 x4
    else
      B_X7_undone_76 k23 fu o S59 x1 x4 v59 x4
set_option maxRecDepth 100000 in
set_option maxHeartbeats 4000000 in
theorem wl_X7_undone_23 {E : Cx} {l : Launch} {res : Int32 × Hp} {ad : Nat → Nat} {k23 : Hp → Int32 → Int32 → Int32 → Option (Int32 × Hp)} {fu : Nat} {o : Nat} {S : Hp} {x1 : Int32} {x2 : Int32} {x3 : Int32} {x4 : Int32} (K : Kx E cX7_undone RX7 (rmd 6 0 0)) (X : Bx E l yX7_undone 6 (some .int) 0 0 ad (QI res)) (hk23 : ∀ (S : Hp) (x2 : Int32) (x3 : Int32) (x4 : Int32), k23 S x2 x3 x4 = some res → J E 0 0 23 [(0, vR (some o)), (1, vI x1), (2, vI x2), (3, vI x3), (4, vI x4)] [] S ad) (h : L_X7_undone_23 k23 fu o x1 S x2 x3 x4 = some res) : J E 0 0 23 [(0, vR (some o)), (1, vI x1), (2, vI x2), (3, vI x3), (4, vI x4)] [] S ad := by
  refine j_iload K dX7_undone_23 4 rfl ?_
  refine j_aload_n K dX7_undone_25 rfl 0 rfl ?_
  obtain ⟨v26, e26, h⟩ := bd h
  refine fgX7_10 K dX7_undone_26 e26 ?_
  obtain ⟨v29, e29, h⟩ := bd h
  refine fgX7_93 K dX7_undone_29 e29 ?_
  refine j_icmp_ge K dX7_undone_32 (fun c32 => ?_) (fun c32 => ?_)
  · replace h := it c32 h
    refine j_iload_n K dX7_undone_82 rfl 1 rfl ?_
    refine j_if_ne K dX7_undone_83 (fun c83 => ?_) (fun c83 => ?_)
    · replace h := ie c83 h
      refine j_iload_n K dX7_undone_90 rfl 3 rfl ?_
      exact j_sub [] rfl (w_X7_undone_91 K X h)
    · replace h := it c83 h
      refine j_iload_n K dX7_undone_86 rfl 2 rfl ?_
      refine j_goto K dX7_undone_87 ?_
      exact j_sub [] rfl (w_X7_undone_91 K X h)
  · replace h := ie c32 h
    refine j_aload_n K dX7_undone_35 rfl 0 rfl ?_
    obtain ⟨v36, e36, h⟩ := bd h
    refine fgX7_16 K dX7_undone_36 e36 ?_
    refine j_aload_n K dX7_undone_39 rfl 0 rfl ?_
    obtain ⟨v40, e40, h⟩ := bd h
    refine fgX7_10 K dX7_undone_40 e40 ?_
    obtain ⟨o43, ew43, hz43⟩ := bd h
    obtain ⟨er43, ho43⟩ := ob_some ew43
    subst er43
    have h := hz43
    obtain ⟨S43, e43, h⟩ := bd h
    refine j_cV (st := []) K (r_V (vs := [vR v40]) (n := 1) (o := o43) K (c_X0_takeFrom e43) ho43 (by decide) rfl dX7_undone_43 z622 z623 z624 z2 z625 ⟨zd_X0_takeFrom, rfl, rfl, rfl, ⟨Nat.le_of_ble_eq_true rfl, Nat.le_of_ble_eq_true rfl⟩, Nat.le_of_ble_eq_true rfl, Nat.le_of_ble_eq_true rfl, Nat.le_of_ble_eq_true rfl⟩) rfl ?_
    refine j_aload_n K dX7_undone_46 rfl 0 rfl ?_
    obtain ⟨v47, e47, h⟩ := bd h
    refine fgX7_16 K dX7_undone_47 e47 ?_
    refine j_iload K dX7_undone_50 4 rfl ?_
    obtain ⟨o52, ew52, hz52⟩ := bd h
    obtain ⟨er52, ho52⟩ := ob_some ew52
    subst er52
    have h := hz52
    obtain ⟨S52, e52, h⟩ := bd h
    refine j_cV (st := []) K (r_V (vs := [vI x4]) (n := 1) (o := o52) K (c_X0_drop e52) ho52 (by decide) rfl dX7_undone_52 z432 z433 z434 z2 z435 ⟨zd_X0_drop, rfl, rfl, rfl, ⟨Nat.le_of_ble_eq_true rfl, Nat.le_of_ble_eq_true rfl⟩, Nat.le_of_ble_eq_true rfl, Nat.le_of_ble_eq_true rfl, Nat.le_of_ble_eq_true rfl⟩) rfl ?_
    refine j_aload_n K dX7_undone_55 rfl 0 rfl ?_
    obtain ⟨v56, e56, h⟩ := bd h
    refine fgX7_16 K dX7_undone_56 e56 ?_
    obtain ⟨o59, ew59, hz59⟩ := bd h
    obtain ⟨er59, ho59⟩ := ob_some ew59
    subst er59
    have h := hz59
    obtain ⟨v59, S59, e59, h⟩ := bd2 h
    refine j_cI (st := []) K (r_V (vs := []) (n := 0) (o := o59) K (c_X0_thoughtOfAll e59) ho59 (by decide) rfl dX7_undone_59 z618 z619 z620 z2 z621 ⟨zd_X0_thoughtOfAll, rfl, rfl, rfl, ⟨Nat.le_of_ble_eq_true rfl, Nat.le_of_ble_eq_true rfl⟩, Nat.le_of_ble_eq_true rfl, Nat.le_of_ble_eq_true rfl, Nat.le_of_ble_eq_true rfl⟩) rfl ?_
    refine j_istore (lv' := [(5, vI v59), (0, vR (some o)), (1, vI x1), (2, vI x2), (3, vI x3), (4, vI x4)]) K dX7_undone_62 X.2.2.1 (by decide) rfl ?_
    refine j_iload K dX7_undone_64 0 rfl ?_
    refine j_iload_n K dX7_undone_66 rfl 4 rfl ?_
    refine j_icmp_le K dX7_undone_67 (fun c67 => ?_) (fun c67 => ?_)
    · replace h := it c67 h
      exact j_sub [1, 2, 3, 4, 5] rfl (w_X7_undone_76 K X hk23 h)
    · replace h := ie c67 h
      refine j_iload K dX7_undone_70 0 rfl ?_
      refine j_istore_n (lv' := [(3, vI v59), (5, vI v59), (0, vR (some o)), (1, vI x1), (2, vI x2), (4, vI x4)]) K dX7_undone_72 rfl X.2.2.1 (by decide) rfl ?_
      refine j_iload K dX7_undone_73 5 rfl ?_
      refine j_istore_n (lv' := [(2, vI x4), (3, vI v59), (5, vI v59), (0, vR (some o)), (1, vI x1), (4, vI x4)]) K dX7_undone_75 rfl X.2.2.1 (by decide) rfl ?_
      exact j_sub [3, 4, 0, 1, 5] rfl (w_X7_undone_76 K X hk23 h)
def B_X7_undone_23 (fu : Nat) (o : Nat) (x1 : Int32) : Nat → Hp → Int32 → Int32 → Int32 → Option (Int32 × Hp)
  | 0 => fun _ _ _ _ => none
  | n + 1 => L_X7_undone_23 (B_X7_undone_23 fu o x1 n) fu o x1
theorem w_X7_undone_23 {E : Cx} {l : Launch} {res : Int32 × Hp} {ad : Nat → Nat} {fu : Nat} {o : Nat} {x1 : Int32} (K : Kx E cX7_undone RX7 (rmd 6 0 0)) (X : Bx E l yX7_undone 6 (some .int) 0 0 ad (QI res)) : ∀ (n : Nat) (S : Hp) (x2 : Int32) (x3 : Int32) (x4 : Int32), B_X7_undone_23 fu o x1 n S x2 x3 x4 = some res → J E 0 0 23 [(0, vR (some o)), (1, vI x1), (2, vI x2), (3, vI x3), (4, vI x4)] [] S ad := by
  intro n
  induction n with
  | zero =>
    intro S x2 x3 x4 h
    cases h
  | succ n ih =>
    intro S x2 x3 x4 h
    exact wl_X7_undone_23 K X ih h
def F_X7_undone (fu : Nat) (S : Hp) (o : Nat) (x1 : Int32) : Option (Int32 × Hp) :=
  b2 (F_X7_isZeroOrOne S x1) fun v1 S1 =>
  if v1 = 0 then
    some ((-2 : Int32), S1)
  else
    (gR S1 (some o) 5 0).bind fun v13 =>
    (ob S1 0 v13).bind fun o16 =>
    b2 (F_X0_thoughtOfAll fu S1 o16) fun v16 S16 =>
    B_X7_undone_23 fu o x1 fu S16 (-1 : Int32) v16 (0 : Int32)
set_option maxRecDepth 100000 in
set_option maxHeartbeats 4000000 in
theorem w_X7_undone {E : Cx} {l : Launch} {res : Int32 × Hp} {ad : Nat → Nat} {fu : Nat} {S : Hp} {o : Nat} {x1 : Int32} (K : Kx E cX7_undone RX7 (rmd 6 0 0)) (X : Bx E l yX7_undone 6 (some .int) 0 0 ad (QI res)) (h : F_X7_undone fu S o x1 = some res) : J E 0 0 0 [(0, vR (some o)), (1, vI x1)] [] S ad := by
  refine j_iload_n K dX7_undone_0 rfl 1 rfl ?_
  obtain ⟨v1, S1, e1, h⟩ := bd2 h
  refine j_cI (st := []) K (r_S (vs := [vI x1]) (n := 1) K (c_X7_isZeroOrOne e1) dX7_undone_1 z497 z498 z1 z499 ⟨zd_X7_isZeroOrOne, rfl, rfl, rfl, ⟨Nat.le_of_ble_eq_true rfl, Nat.le_of_ble_eq_true rfl⟩, Nat.le_of_ble_eq_true rfl, Nat.le_of_ble_eq_true rfl, Nat.le_of_ble_eq_true rfl⟩) rfl ?_
  refine j_if_ne K dX7_undone_4 (fun c4 => ?_) (fun c4 => ?_)
  · replace h := ie c4 h
    refine j_iconst (v := (-1 : Int32)) K dX7_undone_10 (by decide) ?_
    refine j_istore_n (lv' := [(2, vI (-1 : Int32)), (0, vR (some o)), (1, vI x1)]) K dX7_undone_11 rfl X.2.2.1 (by decide) rfl ?_
    refine j_aload_n K dX7_undone_12 rfl 1 rfl ?_
    obtain ⟨v13, e13, h⟩ := bd h
    refine fgX7_10 K dX7_undone_13 e13 ?_
    obtain ⟨o16, ew16, hz16⟩ := bd h
    obtain ⟨er16, ho16⟩ := ob_some ew16
    subst er16
    have h := hz16
    obtain ⟨v16, S16, e16, h⟩ := bd2 h
    refine j_cI (st := []) K (r_V (vs := []) (n := 0) (o := o16) K (c_X0_thoughtOfAll e16) ho16 (by decide) rfl dX7_undone_16 z618 z619 z620 z2 z621 ⟨zd_X0_thoughtOfAll, rfl, rfl, rfl, ⟨Nat.le_of_ble_eq_true rfl, Nat.le_of_ble_eq_true rfl⟩, Nat.le_of_ble_eq_true rfl, Nat.le_of_ble_eq_true rfl, Nat.le_of_ble_eq_true rfl⟩) rfl ?_
    refine j_istore_n (lv' := [(3, vI v16), (2, vI (-1 : Int32)), (0, vR (some o)), (1, vI x1)]) K dX7_undone_19 rfl X.2.2.1 (by decide) rfl ?_
    refine j_iconst (v := (0 : Int32)) K dX7_undone_20 (by decide) ?_
    refine j_istore (lv' := [(4, vI (0 : Int32)), (3, vI v16), (2, vI (-1 : Int32)), (0, vR (some o)), (1, vI x1)]) K dX7_undone_21 X.2.2.1 (by decide) rfl ?_
    exact j_sub [3, 4, 2, 1, 0] rfl (w_X7_undone_23 K X _ _ _ _ _ h)
  · replace h := it c4 h
    refine j_bipush (v := (-2 : Int32)) K dX7_undone_7 (by decide) ?_
    exact j_iret K X dX7_undone_9 h
theorem c_X7_undone {l : Launch} {fu : Nat} {S : Hp} {o : Nat} {x1 : Int32} {res : Int32 × Hp} (h : F_X7_undone fu S o x1 = some res) : Ct l yX7_undone cX7_undone 6 (some .int) (rmd 6 0 0) 0 0 [vR (some o), vI x1] S (QI res) :=
  z_entry (by decide +kernel) (Nat.le_of_ble_eq_true rfl) (fun E ad K X => w_X7_undone K X h)

theorem dX7_pair_0 : decode cX7_pair 0 = .ok (.iload_n 1, 1) ∧ 0 + 1 = 1 := ⟨by decide +kernel, rfl⟩
theorem dX7_pair_1 : decode cX7_pair 1 = .ok (.invokestatic 155, 3) := by decide +kernel
theorem dX7_pair_4 : decode cX7_pair 4 = .ok (.ifCond .ne 6, 3) ∧ 4 + 3 = 7 ∧ ((4 : Nat) : Int) + (6) = ((10 : Nat) : Int) := ⟨by decide +kernel, rfl, by decide⟩
theorem dX7_pair_7 : decode cX7_pair 7 = .ok (.bipush (-2), 2) ∧ 7 + 2 = 9 := ⟨by decide +kernel, rfl⟩
theorem dX7_pair_9 : decode cX7_pair 9 = .ok (.ireturn, 1) := by decide +kernel
theorem dX7_pair_10 : decode cX7_pair 10 = .ok (.iconst (-1), 1) ∧ 10 + 1 = 11 := ⟨by decide +kernel, rfl⟩
theorem dX7_pair_11 : decode cX7_pair 11 = .ok (.istore_n 2, 1) ∧ 11 + 1 = 12 := ⟨by decide +kernel, rfl⟩
theorem dX7_pair_12 : decode cX7_pair 12 = .ok (.iconst (-1), 1) ∧ 12 + 1 = 13 := ⟨by decide +kernel, rfl⟩
theorem dX7_pair_13 : decode cX7_pair 13 = .ok (.istore_n 3, 1) ∧ 13 + 1 = 14 := ⟨by decide +kernel, rfl⟩
theorem dX7_pair_14 : decode cX7_pair 14 = .ok (.iconst 0, 1) ∧ 14 + 1 = 15 := ⟨by decide +kernel, rfl⟩
theorem dX7_pair_15 : decode cX7_pair 15 = .ok (.istore 4, 2) ∧ 15 + 2 = 17 := ⟨by decide +kernel, rfl⟩
theorem dX7_pair_17 : decode cX7_pair 17 = .ok (.iload 4, 2) ∧ 17 + 2 = 19 := ⟨by decide +kernel, rfl⟩
theorem dX7_pair_19 : decode cX7_pair 19 = .ok (.aload_n 0, 1) ∧ 19 + 1 = 20 := ⟨by decide +kernel, rfl⟩
theorem dX7_pair_20 : decode cX7_pair 20 = .ok (.getfield 10, 3) ∧ 20 + 3 = 23 := ⟨by decide +kernel, rfl⟩
theorem dX7_pair_23 : decode cX7_pair 23 = .ok (.getfield 90, 3) ∧ 23 + 3 = 26 := ⟨by decide +kernel, rfl⟩
theorem dX7_pair_26 : decode cX7_pair 26 = .ok (.if_icmp .ge 76, 3) ∧ 26 + 3 = 29 ∧ ((26 : Nat) : Int) + (76) = ((102 : Nat) : Int) := ⟨by decide +kernel, rfl, by decide⟩
theorem dX7_pair_29 : decode cX7_pair 29 = .ok (.iload 4, 2) ∧ 29 + 2 = 31 := ⟨by decide +kernel, rfl⟩
theorem dX7_pair_31 : decode cX7_pair 31 = .ok (.iconst 1, 1) ∧ 31 + 1 = 32 := ⟨by decide +kernel, rfl⟩
theorem dX7_pair_32 : decode cX7_pair 32 = .ok (.iadd, 1) ∧ 32 + 1 = 33 := ⟨by decide +kernel, rfl⟩
theorem dX7_pair_33 : decode cX7_pair 33 = .ok (.istore 5, 2) ∧ 33 + 2 = 35 := ⟨by decide +kernel, rfl⟩
theorem dX7_pair_35 : decode cX7_pair 35 = .ok (.iload 5, 2) ∧ 35 + 2 = 37 := ⟨by decide +kernel, rfl⟩
theorem dX7_pair_37 : decode cX7_pair 37 = .ok (.aload_n 0, 1) ∧ 37 + 1 = 38 := ⟨by decide +kernel, rfl⟩
theorem dX7_pair_38 : decode cX7_pair 38 = .ok (.getfield 10, 3) ∧ 38 + 3 = 41 := ⟨by decide +kernel, rfl⟩
theorem dX7_pair_41 : decode cX7_pair 41 = .ok (.getfield 90, 3) ∧ 41 + 3 = 44 := ⟨by decide +kernel, rfl⟩
theorem dX7_pair_44 : decode cX7_pair 44 = .ok (.if_icmp .ge 52, 3) ∧ 44 + 3 = 47 ∧ ((44 : Nat) : Int) + (52) = ((96 : Nat) : Int) := ⟨by decide +kernel, rfl, by decide⟩
theorem dX7_pair_47 : decode cX7_pair 47 = .ok (.aload_n 0, 1) ∧ 47 + 1 = 48 := ⟨by decide +kernel, rfl⟩
theorem dX7_pair_48 : decode cX7_pair 48 = .ok (.getfield 10, 3) ∧ 48 + 3 = 51 := ⟨by decide +kernel, rfl⟩
theorem dX7_pair_51 : decode cX7_pair 51 = .ok (.iload 4, 2) ∧ 51 + 2 = 53 := ⟨by decide +kernel, rfl⟩
theorem dX7_pair_53 : decode cX7_pair 53 = .ok (.iload 5, 2) ∧ 53 + 2 = 55 := ⟨by decide +kernel, rfl⟩
theorem dX7_pair_55 : decode cX7_pair 55 = .ok (.invokevirtual 237, 3) := by decide +kernel
theorem dX7_pair_58 : decode cX7_pair 58 = .ok (.aload_n 0, 1) ∧ 58 + 1 = 59 := ⟨by decide +kernel, rfl⟩
theorem dX7_pair_59 : decode cX7_pair 59 = .ok (.getfield 10, 3) ∧ 59 + 3 = 62 := ⟨by decide +kernel, rfl⟩
theorem dX7_pair_62 : decode cX7_pair 62 = .ok (.iload 5, 2) ∧ 62 + 2 = 64 := ⟨by decide +kernel, rfl⟩
theorem dX7_pair_64 : decode cX7_pair 64 = .ok (.iload 4, 2) ∧ 64 + 2 = 66 := ⟨by decide +kernel, rfl⟩
theorem dX7_pair_66 : decode cX7_pair 66 = .ok (.invokevirtual 237, 3) := by decide +kernel
theorem dX7_pair_69 : decode cX7_pair 69 = .ok (.iadd, 1) ∧ 69 + 1 = 70 := ⟨by decide +kernel, rfl⟩
theorem dX7_pair_70 : decode cX7_pair 70 = .ok (.istore 6, 2) ∧ 70 + 2 = 72 := ⟨by decide +kernel, rfl⟩
theorem dX7_pair_72 : decode cX7_pair 72 = .ok (.iload 6, 2) ∧ 72 + 2 = 74 := ⟨by decide +kernel, rfl⟩
theorem dX7_pair_74 : decode cX7_pair 74 = .ok (.iload_n 3, 1) ∧ 74 + 1 = 75 := ⟨by decide +kernel, rfl⟩
theorem dX7_pair_75 : decode cX7_pair 75 = .ok (.if_icmp .le 15, 3) ∧ 75 + 3 = 78 ∧ ((75 : Nat) : Int) + (15) = ((90 : Nat) : Int) := ⟨by decide +kernel, rfl, by decide⟩
theorem dX7_pair_78 : decode cX7_pair 78 = .ok (.iload 6, 2) ∧ 78 + 2 = 80 := ⟨by decide +kernel, rfl⟩
theorem dX7_pair_80 : decode cX7_pair 80 = .ok (.istore_n 3, 1) ∧ 80 + 1 = 81 := ⟨by decide +kernel, rfl⟩
theorem dX7_pair_81 : decode cX7_pair 81 = .ok (.bipush 10, 2) ∧ 81 + 2 = 83 := ⟨by decide +kernel, rfl⟩
theorem dX7_pair_83 : decode cX7_pair 83 = .ok (.iload 4, 2) ∧ 83 + 2 = 85 := ⟨by decide +kernel, rfl⟩
theorem dX7_pair_85 : decode cX7_pair 85 = .ok (.imul, 1) ∧ 85 + 1 = 86 := ⟨by decide +kernel, rfl⟩
theorem dX7_pair_86 : decode cX7_pair 86 = .ok (.iload 5, 2) ∧ 86 + 2 = 88 := ⟨by decide +kernel, rfl⟩
theorem dX7_pair_88 : decode cX7_pair 88 = .ok (.iadd, 1) ∧ 88 + 1 = 89 := ⟨by decide +kernel, rfl⟩
theorem dX7_pair_89 : decode cX7_pair 89 = .ok (.istore_n 2, 1) ∧ 89 + 1 = 90 := ⟨by decide +kernel, rfl⟩
theorem dX7_pair_90 : decode cX7_pair 90 = .ok (.iinc 5 1, 3) ∧ 90 + 3 = 93 := ⟨by decide +kernel, rfl⟩
theorem dX7_pair_93 : decode cX7_pair 93 = .ok (.goto (-58), 3) ∧ ((93 : Nat) : Int) + (-58) = ((35 : Nat) : Int) := ⟨by decide +kernel, by decide⟩
theorem dX7_pair_96 : decode cX7_pair 96 = .ok (.iinc 4 1, 3) ∧ 96 + 3 = 99 := ⟨by decide +kernel, rfl⟩
theorem dX7_pair_99 : decode cX7_pair 99 = .ok (.goto (-82), 3) ∧ ((99 : Nat) : Int) + (-82) = ((17 : Nat) : Int) := ⟨by decide +kernel, by decide⟩
theorem dX7_pair_102 : decode cX7_pair 102 = .ok (.iload_n 1, 1) ∧ 102 + 1 = 103 := ⟨by decide +kernel, rfl⟩
theorem dX7_pair_103 : decode cX7_pair 103 = .ok (.ifCond .ne 7, 3) ∧ 103 + 3 = 106 ∧ ((103 : Nat) : Int) + (7) = ((110 : Nat) : Int) := ⟨by decide +kernel, rfl, by decide⟩
theorem dX7_pair_106 : decode cX7_pair 106 = .ok (.iload_n 2, 1) ∧ 106 + 1 = 107 := ⟨by decide +kernel, rfl⟩
theorem dX7_pair_107 : decode cX7_pair 107 = .ok (.goto 4, 3) ∧ ((107 : Nat) : Int) + (4) = ((111 : Nat) : Int) := ⟨by decide +kernel, by decide⟩
theorem dX7_pair_110 : decode cX7_pair 110 = .ok (.iload_n 3, 1) ∧ 110 + 1 = 111 := ⟨by decide +kernel, rfl⟩
theorem dX7_pair_111 : decode cX7_pair 111 = .ok (.ireturn, 1) := by decide +kernel
def B_X7_pair_90 (k17 : Hp → Int32 → Int32 → Int32 → Option (Int32 × Hp)) (k35 : Hp → Int32 → Int32 → Int32 → Option (Int32 × Hp)) (fu : Nat) (o : Nat) (S : Hp) (x1 : Int32) (x2 : Int32) (x3 : Int32) (x4 : Int32) (x5 : Int32) : Option (Int32 × Hp) :=
  k35 S x2 x3 (x5 + (1 : Int32))
set_option maxRecDepth 100000 in
set_option maxHeartbeats 4000000 in
theorem w_X7_pair_90 {E : Cx} {l : Launch} {res : Int32 × Hp} {ad : Nat → Nat} {k17 : Hp → Int32 → Int32 → Int32 → Option (Int32 × Hp)} {k35 : Hp → Int32 → Int32 → Int32 → Option (Int32 × Hp)} {fu : Nat} {o : Nat} {S : Hp} {x1 : Int32} {x2 : Int32} {x3 : Int32} {x4 : Int32} {x5 : Int32} (K : Kx E cX7_pair RX7 (rmd 3 0 0)) (X : Bx E l yX7_pair 7 (some .int) 0 0 ad (QI res)) (hk17 : ∀ (S : Hp) (x2 : Int32) (x3 : Int32) (x4 : Int32), k17 S x2 x3 x4 = some res → J E 0 0 17 [(0, vR (some o)), (1, vI x1), (2, vI x2), (3, vI x3), (4, vI x4)] [] S ad) (hk35 : ∀ (S : Hp) (x2 : Int32) (x3 : Int32) (x5 : Int32), k35 S x2 x3 x5 = some res → J E 0 0 35 [(0, vR (some o)), (1, vI x1), (2, vI x2), (3, vI x3), (4, vI x4), (5, vI x5)] [] S ad) (h : B_X7_pair_90 k17 k35 fu o S x1 x2 x3 x4 x5 = some res) : J E 0 0 90 [(0, vR (some o)), (1, vI x1), (2, vI x2), (3, vI x3), (4, vI x4), (5, vI x5)] [] S ad := by
  refine j_iinc (q := 5) (v := (x5 + (1 : Int32))) (lv' := [(5, vI (x5 + (1 : Int32))), (0, vR (some o)), (1, vI x1), (2, vI x2), (3, vI x3), (4, vI x4)]) K dX7_pair_90 rfl rfl X.2.2.1 (by decide) rfl ?_
  refine j_goto K dX7_pair_93 ?_
  exact j_sub [1, 2, 3, 4, 5, 0] rfl (hk35 _ _ _ _ h)
def L_X7_pair_35 (k17 : Hp → Int32 → Int32 → Int32 → Option (Int32 × Hp)) (k35 : Hp → Int32 → Int32 → Int32 → Option (Int32 × Hp)) (fu : Nat) (o : Nat) (x1 : Int32) (x4 : Int32) (S : Hp) (x2 : Int32) (x3 : Int32) (x5 : Int32) : Option (Int32 × Hp) :=
  (gR S (some o) 5 0).bind fun v38 =>
  (gI S v38 0 0).bind fun v41 =>
  if v41 ≤ x5 then
    k17 S x2 x3 (x4 + (1 : Int32))
  else
    (gR S (some o) 5 0).bind fun v48 =>
    (ob S 0 v48).bind fun o55 =>
    b2 (F_X0_sightingsOf fu S o55 x4 x5) fun v55 S55 =>
    (gR S55 (some o) 5 0).bind fun v59 =>
    (ob S55 0 v59).bind fun o66 =>
    b2 (F_X0_sightingsOf fu S55 o66 x5 x4) fun v66 S66 =>
    if (v55 + v66) ≤ x3 then
      B_X7_pair_90 k17 k35 fu o S66 x1 x2 x3 x4 x5
    else
      B_X7_pair_90 k17 k35 fu o S66 x1 (((10 : Int32) * x4) + x5) (v55 + v66) x4 x5
set_option maxRecDepth 100000 in
set_option maxHeartbeats 4000000 in
theorem wl_X7_pair_35 {E : Cx} {l : Launch} {res : Int32 × Hp} {ad : Nat → Nat} {k17 : Hp → Int32 → Int32 → Int32 → Option (Int32 × Hp)} {k35 : Hp → Int32 → Int32 → Int32 → Option (Int32 × Hp)} {fu : Nat} {o : Nat} {S : Hp} {x1 : Int32} {x2 : Int32} {x3 : Int32} {x4 : Int32} {x5 : Int32} (K : Kx E cX7_pair RX7 (rmd 3 0 0)) (X : Bx E l yX7_pair 7 (some .int) 0 0 ad (QI res)) (hk17 : ∀ (S : Hp) (x2 : Int32) (x3 : Int32) (x4 : Int32), k17 S x2 x3 x4 = some res → J E 0 0 17 [(0, vR (some o)), (1, vI x1), (2, vI x2), (3, vI x3), (4, vI x4)] [] S ad) (hk35 : ∀ (S : Hp) (x2 : Int32) (x3 : Int32) (x5 : Int32), k35 S x2 x3 x5 = some res → J E 0 0 35 [(0, vR (some o)), (1, vI x1), (2, vI x2), (3, vI x3), (4, vI x4), (5, vI x5)] [] S ad) (h : L_X7_pair_35 k17 k35 fu o x1 x4 S x2 x3 x5 = some res) : J E 0 0 35 [(0, vR (some o)), (1, vI x1), (2, vI x2), (3, vI x3), (4, vI x4), (5, vI x5)] [] S ad := by
  refine j_iload K dX7_pair_35 5 rfl ?_
  refine j_aload_n K dX7_pair_37 rfl 0 rfl ?_
  obtain ⟨v38, e38, h⟩ := bd h
  refine fgX7_10 K dX7_pair_38 e38 ?_
  obtain ⟨v41, e41, h⟩ := bd h
  refine fgX7_90 K dX7_pair_41 e41 ?_
  refine j_icmp_ge K dX7_pair_44 (fun c44 => ?_) (fun c44 => ?_)
  · replace h := it c44 h
    refine j_iinc (q := 4) (v := (x4 + (1 : Int32))) (lv' := [(4, vI (x4 + (1 : Int32))), (0, vR (some o)), (1, vI x1), (2, vI x2), (3, vI x3), (5, vI x5)]) K dX7_pair_96 rfl rfl X.2.2.1 (by decide) rfl ?_
    refine j_goto K dX7_pair_99 ?_
    exact j_sub [1, 2, 3, 4, 0] rfl (hk17 _ _ _ _ h)
  · replace h := ie c44 h
    refine j_aload_n K dX7_pair_47 rfl 0 rfl ?_
    obtain ⟨v48, e48, h⟩ := bd h
    refine fgX7_10 K dX7_pair_48 e48 ?_
    refine j_iload K dX7_pair_51 4 rfl ?_
    refine j_iload K dX7_pair_53 5 rfl ?_
    obtain ⟨o55, ew55, hz55⟩ := bd h
    obtain ⟨er55, ho55⟩ := ob_some ew55
    subst er55
    have h := hz55
    obtain ⟨v55, S55, e55, h⟩ := bd2 h
    refine j_cI (st := []) K (r_V (vs := [vI x4, vI x5]) (n := 2) (o := o55) K (c_X0_sightingsOf e55) ho55 (by decide) rfl dX7_pair_55 z638 z639 z640 z2 z641 ⟨zd_X0_sightingsOf, rfl, rfl, rfl, ⟨Nat.le_of_ble_eq_true rfl, Nat.le_of_ble_eq_true rfl⟩, Nat.le_of_ble_eq_true rfl, Nat.le_of_ble_eq_true rfl, Nat.le_of_ble_eq_true rfl⟩) rfl ?_
    refine j_aload_n K dX7_pair_58 rfl 0 rfl ?_
    obtain ⟨v59, e59, h⟩ := bd h
    refine fgX7_10 K dX7_pair_59 e59 ?_
    refine j_iload K dX7_pair_62 5 rfl ?_
    refine j_iload K dX7_pair_64 4 rfl ?_
    obtain ⟨o66, ew66, hz66⟩ := bd h
    obtain ⟨er66, ho66⟩ := ob_some ew66
    subst er66
    have h := hz66
    obtain ⟨v66, S66, e66, h⟩ := bd2 h
    refine j_cI (st := [vI v55]) K (r_V (vs := [vI x5, vI x4]) (n := 2) (o := o66) K (c_X0_sightingsOf e66) ho66 (by decide) rfl dX7_pair_66 z638 z639 z640 z2 z641 ⟨zd_X0_sightingsOf, rfl, rfl, rfl, ⟨Nat.le_of_ble_eq_true rfl, Nat.le_of_ble_eq_true rfl⟩, Nat.le_of_ble_eq_true rfl, Nat.le_of_ble_eq_true rfl, Nat.le_of_ble_eq_true rfl⟩) rfl ?_
    refine j_iadd K dX7_pair_69 ?_
    refine j_istore (lv' := [(6, vI (v55 + v66)), (0, vR (some o)), (1, vI x1), (2, vI x2), (3, vI x3), (4, vI x4), (5, vI x5)]) K dX7_pair_70 X.2.2.1 (by decide) rfl ?_
    refine j_iload K dX7_pair_72 0 rfl ?_
    refine j_iload_n K dX7_pair_74 rfl 4 rfl ?_
    refine j_icmp_le K dX7_pair_75 (fun c75 => ?_) (fun c75 => ?_)
    · replace h := it c75 h
      exact j_sub [1, 2, 3, 4, 5, 6] rfl (w_X7_pair_90 K X hk17 hk35 h)
    · replace h := ie c75 h
      refine j_iload K dX7_pair_78 0 rfl ?_
      refine j_istore_n (lv' := [(3, vI (v55 + v66)), (6, vI (v55 + v66)), (0, vR (some o)), (1, vI x1), (2, vI x2), (4, vI x4), (5, vI x5)]) K dX7_pair_80 rfl X.2.2.1 (by decide) rfl ?_
      refine j_bipush (v := (10 : Int32)) K dX7_pair_81 (by decide) ?_
      refine j_iload K dX7_pair_83 5 rfl ?_
      refine j_imul K dX7_pair_85 ?_
      refine j_iload K dX7_pair_86 6 rfl ?_
      refine j_iadd K dX7_pair_88 ?_
      refine j_istore_n (lv' := [(2, vI (((10 : Int32) * x4) + x5)), (3, vI (v55 + v66)), (6, vI (v55 + v66)), (0, vR (some o)), (1, vI x1), (4, vI x4), (5, vI x5)]) K dX7_pair_89 rfl X.2.2.1 (by decide) rfl ?_
      exact j_sub [3, 4, 0, 1, 5, 6] rfl (w_X7_pair_90 K X hk17 hk35 h)
def B_X7_pair_35 (k17 : Hp → Int32 → Int32 → Int32 → Option (Int32 × Hp)) (fu : Nat) (o : Nat) (x1 : Int32) (x4 : Int32) : Nat → Hp → Int32 → Int32 → Int32 → Option (Int32 × Hp)
  | 0 => fun _ _ _ _ => none
  | n + 1 => L_X7_pair_35 k17 (B_X7_pair_35 k17 fu o x1 x4 n) fu o x1 x4
theorem w_X7_pair_35 {E : Cx} {l : Launch} {res : Int32 × Hp} {ad : Nat → Nat} {k17 : Hp → Int32 → Int32 → Int32 → Option (Int32 × Hp)} {fu : Nat} {o : Nat} {x1 : Int32} {x4 : Int32} (K : Kx E cX7_pair RX7 (rmd 3 0 0)) (X : Bx E l yX7_pair 7 (some .int) 0 0 ad (QI res)) (hk17 : ∀ (S : Hp) (x2 : Int32) (x3 : Int32) (x4 : Int32), k17 S x2 x3 x4 = some res → J E 0 0 17 [(0, vR (some o)), (1, vI x1), (2, vI x2), (3, vI x3), (4, vI x4)] [] S ad) : ∀ (n : Nat) (S : Hp) (x2 : Int32) (x3 : Int32) (x5 : Int32), B_X7_pair_35 k17 fu o x1 x4 n S x2 x3 x5 = some res → J E 0 0 35 [(0, vR (some o)), (1, vI x1), (2, vI x2), (3, vI x3), (4, vI x4), (5, vI x5)] [] S ad := by
  intro n
  induction n with
  | zero =>
    intro S x2 x3 x5 h
    cases h
  | succ n ih =>
    intro S x2 x3 x5 h
    exact wl_X7_pair_35 K X hk17 ih h
def B_X7_pair_111 (fu : Nat) (o : Nat) (S : Hp) (s0 : Int32) : Option (Int32 × Hp) :=
  some (s0, S)
set_option maxRecDepth 100000 in
set_option maxHeartbeats 4000000 in
theorem w_X7_pair_111 {E : Cx} {l : Launch} {res : Int32 × Hp} {ad : Nat → Nat} {fu : Nat} {o : Nat} {S : Hp} {s0 : Int32} (K : Kx E cX7_pair RX7 (rmd 3 0 0)) (X : Bx E l yX7_pair 7 (some .int) 0 0 ad (QI res)) (h : B_X7_pair_111 fu o S s0 = some res) : J E 0 0 111 [] [vI s0] S ad := by
  exact j_iret K X dX7_pair_111 h
def L_X7_pair_17 (k17 : Hp → Int32 → Int32 → Int32 → Option (Int32 × Hp)) (fu : Nat) (o : Nat) (x1 : Int32) (S : Hp) (x2 : Int32) (x3 : Int32) (x4 : Int32) : Option (Int32 × Hp) :=
  (gR S (some o) 5 0).bind fun v20 =>
  (gI S v20 0 0).bind fun v23 =>
  if v23 ≤ x4 then
    if x1 = 0 then
      B_X7_pair_111 fu o S x2
    else
      B_X7_pair_111 fu o S x3
  else
    B_X7_pair_35 k17 fu o x1 x4 fu S x2 x3 (x4 + (1 : Int32))
set_option maxRecDepth 100000 in
set_option maxHeartbeats 4000000 in
theorem wl_X7_pair_17 {E : Cx} {l : Launch} {res : Int32 × Hp} {ad : Nat → Nat} {k17 : Hp → Int32 → Int32 → Int32 → Option (Int32 × Hp)} {fu : Nat} {o : Nat} {S : Hp} {x1 : Int32} {x2 : Int32} {x3 : Int32} {x4 : Int32} (K : Kx E cX7_pair RX7 (rmd 3 0 0)) (X : Bx E l yX7_pair 7 (some .int) 0 0 ad (QI res)) (hk17 : ∀ (S : Hp) (x2 : Int32) (x3 : Int32) (x4 : Int32), k17 S x2 x3 x4 = some res → J E 0 0 17 [(0, vR (some o)), (1, vI x1), (2, vI x2), (3, vI x3), (4, vI x4)] [] S ad) (h : L_X7_pair_17 k17 fu o x1 S x2 x3 x4 = some res) : J E 0 0 17 [(0, vR (some o)), (1, vI x1), (2, vI x2), (3, vI x3), (4, vI x4)] [] S ad := by
  refine j_iload K dX7_pair_17 4 rfl ?_
  refine j_aload_n K dX7_pair_19 rfl 0 rfl ?_
  obtain ⟨v20, e20, h⟩ := bd h
  refine fgX7_10 K dX7_pair_20 e20 ?_
  obtain ⟨v23, e23, h⟩ := bd h
  refine fgX7_90 K dX7_pair_23 e23 ?_
  refine j_icmp_ge K dX7_pair_26 (fun c26 => ?_) (fun c26 => ?_)
  · replace h := it c26 h
    refine j_iload_n K dX7_pair_102 rfl 1 rfl ?_
    refine j_if_ne K dX7_pair_103 (fun c103 => ?_) (fun c103 => ?_)
    · replace h := ie c103 h
      refine j_iload_n K dX7_pair_110 rfl 3 rfl ?_
      exact j_sub [] rfl (w_X7_pair_111 K X h)
    · replace h := it c103 h
      refine j_iload_n K dX7_pair_106 rfl 2 rfl ?_
      refine j_goto K dX7_pair_107 ?_
      exact j_sub [] rfl (w_X7_pair_111 K X h)
  · replace h := ie c26 h
    refine j_iload K dX7_pair_29 4 rfl ?_
    refine j_iconst (v := (1 : Int32)) K dX7_pair_31 (by decide) ?_
    refine j_iadd K dX7_pair_32 ?_
    refine j_istore (lv' := [(5, vI (x4 + (1 : Int32))), (0, vR (some o)), (1, vI x1), (2, vI x2), (3, vI x3), (4, vI x4)]) K dX7_pair_33 X.2.2.1 (by decide) rfl ?_
    exact j_sub [1, 2, 3, 4, 5, 0] rfl (w_X7_pair_35 K X hk17 _ _ _ _ _ h)
def B_X7_pair_17 (fu : Nat) (o : Nat) (x1 : Int32) : Nat → Hp → Int32 → Int32 → Int32 → Option (Int32 × Hp)
  | 0 => fun _ _ _ _ => none
  | n + 1 => L_X7_pair_17 (B_X7_pair_17 fu o x1 n) fu o x1
theorem w_X7_pair_17 {E : Cx} {l : Launch} {res : Int32 × Hp} {ad : Nat → Nat} {fu : Nat} {o : Nat} {x1 : Int32} (K : Kx E cX7_pair RX7 (rmd 3 0 0)) (X : Bx E l yX7_pair 7 (some .int) 0 0 ad (QI res)) : ∀ (n : Nat) (S : Hp) (x2 : Int32) (x3 : Int32) (x4 : Int32), B_X7_pair_17 fu o x1 n S x2 x3 x4 = some res → J E 0 0 17 [(0, vR (some o)), (1, vI x1), (2, vI x2), (3, vI x3), (4, vI x4)] [] S ad := by
  intro n
  induction n with
  | zero =>
    intro S x2 x3 x4 h
    cases h
  | succ n ih =>
    intro S x2 x3 x4 h
    exact wl_X7_pair_17 K X ih h
def F_X7_pair (fu : Nat) (S : Hp) (o : Nat) (x1 : Int32) : Option (Int32 × Hp) :=
  b2 (F_X7_isZeroOrOne S x1) fun v1 S1 =>
  if v1 = 0 then
    some ((-2 : Int32), S1)
  else
    B_X7_pair_17 fu o x1 fu S1 (-1 : Int32) (-1 : Int32) (0 : Int32)
set_option maxRecDepth 100000 in
set_option maxHeartbeats 4000000 in
theorem w_X7_pair {E : Cx} {l : Launch} {res : Int32 × Hp} {ad : Nat → Nat} {fu : Nat} {S : Hp} {o : Nat} {x1 : Int32} (K : Kx E cX7_pair RX7 (rmd 3 0 0)) (X : Bx E l yX7_pair 7 (some .int) 0 0 ad (QI res)) (h : F_X7_pair fu S o x1 = some res) : J E 0 0 0 [(0, vR (some o)), (1, vI x1)] [] S ad := by
  refine j_iload_n K dX7_pair_0 rfl 1 rfl ?_
  obtain ⟨v1, S1, e1, h⟩ := bd2 h
  refine j_cI (st := []) K (r_S (vs := [vI x1]) (n := 1) K (c_X7_isZeroOrOne e1) dX7_pair_1 z497 z498 z1 z499 ⟨zd_X7_isZeroOrOne, rfl, rfl, rfl, ⟨Nat.le_of_ble_eq_true rfl, Nat.le_of_ble_eq_true rfl⟩, Nat.le_of_ble_eq_true rfl, Nat.le_of_ble_eq_true rfl, Nat.le_of_ble_eq_true rfl⟩) rfl ?_
  refine j_if_ne K dX7_pair_4 (fun c4 => ?_) (fun c4 => ?_)
  · replace h := ie c4 h
    refine j_iconst (v := (-1 : Int32)) K dX7_pair_10 (by decide) ?_
    refine j_istore_n (lv' := [(2, vI (-1 : Int32)), (0, vR (some o)), (1, vI x1)]) K dX7_pair_11 rfl X.2.2.1 (by decide) rfl ?_
    refine j_iconst (v := (-1 : Int32)) K dX7_pair_12 (by decide) ?_
    refine j_istore_n (lv' := [(3, vI (-1 : Int32)), (2, vI (-1 : Int32)), (0, vR (some o)), (1, vI x1)]) K dX7_pair_13 rfl X.2.2.1 (by decide) rfl ?_
    refine j_iconst (v := (0 : Int32)) K dX7_pair_14 (by decide) ?_
    refine j_istore (lv' := [(4, vI (0 : Int32)), (3, vI (-1 : Int32)), (2, vI (-1 : Int32)), (0, vR (some o)), (1, vI x1)]) K dX7_pair_15 X.2.2.1 (by decide) rfl ?_
    exact j_sub [3, 4, 2, 1, 0] rfl (w_X7_pair_17 K X _ _ _ _ _ h)
  · replace h := it c4 h
    refine j_bipush (v := (-2 : Int32)) K dX7_pair_7 (by decide) ?_
    exact j_iret K X dX7_pair_9 h
theorem c_X7_pair {l : Launch} {fu : Nat} {S : Hp} {o : Nat} {x1 : Int32} {res : Int32 × Hp} (h : F_X7_pair fu S o x1 = some res) : Ct l yX7_pair cX7_pair 7 (some .int) (rmd 3 0 0) 0 0 [vR (some o), vI x1] S (QI res) :=
  z_entry (by decide +kernel) (Nat.le_of_ble_eq_true rfl) (fun E ad K X => w_X7_pair K X h)

theorem dX7_setsByBeats_0 : decode cX7_setsByBeats 0 = .ok (.iconst 0, 1) ∧ 0 + 1 = 1 := ⟨by decide +kernel, rfl⟩
theorem dX7_setsByBeats_1 : decode cX7_setsByBeats 1 = .ok (.istore_n 3, 1) ∧ 1 + 1 = 2 := ⟨by decide +kernel, rfl⟩
theorem dX7_setsByBeats_2 : decode cX7_setsByBeats 2 = .ok (.iconst 0, 1) ∧ 2 + 1 = 3 := ⟨by decide +kernel, rfl⟩
theorem dX7_setsByBeats_3 : decode cX7_setsByBeats 3 = .ok (.istore 4, 2) ∧ 3 + 2 = 5 := ⟨by decide +kernel, rfl⟩
theorem dX7_setsByBeats_5 : decode cX7_setsByBeats 5 = .ok (.iload 4, 2) ∧ 5 + 2 = 7 := ⟨by decide +kernel, rfl⟩
theorem dX7_setsByBeats_7 : decode cX7_setsByBeats 7 = .ok (.iconst 1, 1) ∧ 7 + 1 = 8 := ⟨by decide +kernel, rfl⟩
theorem dX7_setsByBeats_8 : decode cX7_setsByBeats 8 = .ok (.aload_n 0, 1) ∧ 8 + 1 = 9 := ⟨by decide +kernel, rfl⟩
theorem dX7_setsByBeats_9 : decode cX7_setsByBeats 9 = .ok (.getfield 10, 3) ∧ 9 + 3 = 12 := ⟨by decide +kernel, rfl⟩
theorem dX7_setsByBeats_12 : decode cX7_setsByBeats 12 = .ok (.getfield 93, 3) ∧ 12 + 3 = 15 := ⟨by decide +kernel, rfl⟩
theorem dX7_setsByBeats_15 : decode cX7_setsByBeats 15 = .ok (.ishl, 1) ∧ 15 + 1 = 16 := ⟨by decide +kernel, rfl⟩
theorem dX7_setsByBeats_16 : decode cX7_setsByBeats 16 = .ok (.if_icmp .ge 30, 3) ∧ 16 + 3 = 19 ∧ ((16 : Nat) : Int) + (30) = ((46 : Nat) : Int) := ⟨by decide +kernel, rfl, by decide⟩
theorem dX7_setsByBeats_19 : decode cX7_setsByBeats 19 = .ok (.iload 4, 2) ∧ 19 + 2 = 21 := ⟨by decide +kernel, rfl⟩
theorem dX7_setsByBeats_21 : decode cX7_setsByBeats 21 = .ok (.iload_n 2, 1) ∧ 21 + 1 = 22 := ⟨by decide +kernel, rfl⟩
theorem dX7_setsByBeats_22 : decode cX7_setsByBeats 22 = .ok (.iand, 1) ∧ 22 + 1 = 23 := ⟨by decide +kernel, rfl⟩
theorem dX7_setsByBeats_23 : decode cX7_setsByBeats 23 = .ok (.iload_n 2, 1) ∧ 23 + 1 = 24 := ⟨by decide +kernel, rfl⟩
theorem dX7_setsByBeats_24 : decode cX7_setsByBeats 24 = .ok (.if_icmp .ne 16, 3) ∧ 24 + 3 = 27 ∧ ((24 : Nat) : Int) + (16) = ((40 : Nat) : Int) := ⟨by decide +kernel, rfl, by decide⟩
theorem dX7_setsByBeats_27 : decode cX7_setsByBeats 27 = .ok (.aload_n 0, 1) ∧ 27 + 1 = 28 := ⟨by decide +kernel, rfl⟩
theorem dX7_setsByBeats_28 : decode cX7_setsByBeats 28 = .ok (.iload 4, 2) ∧ 28 + 2 = 30 := ⟨by decide +kernel, rfl⟩
theorem dX7_setsByBeats_30 : decode cX7_setsByBeats 30 = .ok (.invokevirtual 218, 3) := by decide +kernel
theorem dX7_setsByBeats_33 : decode cX7_setsByBeats 33 = .ok (.iload_n 1, 1) ∧ 33 + 1 = 34 := ⟨by decide +kernel, rfl⟩
theorem dX7_setsByBeats_34 : decode cX7_setsByBeats 34 = .ok (.if_icmp .ne 6, 3) ∧ 34 + 3 = 37 ∧ ((34 : Nat) : Int) + (6) = ((40 : Nat) : Int) := ⟨by decide +kernel, rfl, by decide⟩
theorem dX7_setsByBeats_37 : decode cX7_setsByBeats 37 = .ok (.iinc 3 1, 3) ∧ 37 + 3 = 40 := ⟨by decide +kernel, rfl⟩
theorem dX7_setsByBeats_40 : decode cX7_setsByBeats 40 = .ok (.iinc 4 1, 3) ∧ 40 + 3 = 43 := ⟨by decide +kernel, rfl⟩
theorem dX7_setsByBeats_43 : decode cX7_setsByBeats 43 = .ok (.goto (-38), 3) ∧ ((43 : Nat) : Int) + (-38) = ((5 : Nat) : Int) := ⟨by decide +kernel, by decide⟩
theorem dX7_setsByBeats_46 : decode cX7_setsByBeats 46 = .ok (.iload_n 3, 1) ∧ 46 + 1 = 47 := ⟨by decide +kernel, rfl⟩
theorem dX7_setsByBeats_47 : decode cX7_setsByBeats 47 = .ok (.ireturn, 1) := by decide +kernel
def B_X7_setsByBeats_40 (k5 : Hp → Int32 → Int32 → Option (Int32 × Hp)) (fu : Nat) (o : Nat) (S : Hp) (x1 : Int32) (x2 : Int32) (x3 : Int32) (x4 : Int32) : Option (Int32 × Hp) :=
  k5 S x3 (x4 + (1 : Int32))
set_option maxRecDepth 100000 in
set_option maxHeartbeats 4000000 in
theorem w_X7_setsByBeats_40 {E : Cx} {l : Launch} {res : Int32 × Hp} {ad : Nat → Nat} {k5 : Hp → Int32 → Int32 → Option (Int32 × Hp)} {fu : Nat} {o : Nat} {S : Hp} {x1 : Int32} {x2 : Int32} {x3 : Int32} {x4 : Int32} (K : Kx E cX7_setsByBeats RX7 (rmd 2 0 0)) (X : Bx E l yX7_setsByBeats 5 (some .int) 0 0 ad (QI res)) (hk5 : ∀ (S : Hp) (x3 : Int32) (x4 : Int32), k5 S x3 x4 = some res → J E 0 0 5 [(0, vR (some o)), (1, vI x1), (2, vI x2), (3, vI x3), (4, vI x4)] [] S ad) (h : B_X7_setsByBeats_40 k5 fu o S x1 x2 x3 x4 = some res) : J E 0 0 40 [(0, vR (some o)), (1, vI x1), (2, vI x2), (3, vI x3), (4, vI x4)] [] S ad := by
  refine j_iinc (q := 4) (v := (x4 + (1 : Int32))) (lv' := [(4, vI (x4 + (1 : Int32))), (0, vR (some o)), (1, vI x1), (2, vI x2), (3, vI x3)]) K dX7_setsByBeats_40 rfl rfl X.2.2.1 (by decide) rfl ?_
  refine j_goto K dX7_setsByBeats_43 ?_
  exact j_sub [1, 2, 3, 4, 0] rfl (hk5 _ _ _ h)
def L_X7_setsByBeats_5 (k5 : Hp → Int32 → Int32 → Option (Int32 × Hp)) (fu : Nat) (o : Nat) (x1 : Int32) (x2 : Int32) (S : Hp) (x3 : Int32) (x4 : Int32) : Option (Int32 × Hp) :=
  (gR S (some o) 5 0).bind fun v9 =>
  (gI S v9 0 5).bind fun v12 =>
  if ((1 : Int32) <<< (v12 &&& 31)) ≤ x4 then
    some (x3, S)
  else
    if (x4 &&& x2) = x2 then
      (ob S 5 (some o)).bind fun _ =>
      b2 (F_X7_strokesBySet fu S o x4) fun v30 S30 =>
      if v30 = x1 then
        B_X7_setsByBeats_40 k5 fu o S30 x1 x2 (x3 + (1 : Int32)) x4
      else
        B_X7_setsByBeats_40 k5 fu o S30 x1 x2 x3 x4
    else
      B_X7_setsByBeats_40 k5 fu o S x1 x2 x3 x4
set_option maxRecDepth 100000 in
set_option maxHeartbeats 4000000 in
theorem wl_X7_setsByBeats_5 {E : Cx} {l : Launch} {res : Int32 × Hp} {ad : Nat → Nat} {k5 : Hp → Int32 → Int32 → Option (Int32 × Hp)} {fu : Nat} {o : Nat} {S : Hp} {x1 : Int32} {x2 : Int32} {x3 : Int32} {x4 : Int32} (K : Kx E cX7_setsByBeats RX7 (rmd 2 0 0)) (X : Bx E l yX7_setsByBeats 5 (some .int) 0 0 ad (QI res)) (hk5 : ∀ (S : Hp) (x3 : Int32) (x4 : Int32), k5 S x3 x4 = some res → J E 0 0 5 [(0, vR (some o)), (1, vI x1), (2, vI x2), (3, vI x3), (4, vI x4)] [] S ad) (h : L_X7_setsByBeats_5 k5 fu o x1 x2 S x3 x4 = some res) : J E 0 0 5 [(0, vR (some o)), (1, vI x1), (2, vI x2), (3, vI x3), (4, vI x4)] [] S ad := by
  refine j_iload K dX7_setsByBeats_5 4 rfl ?_
  refine j_iconst (v := (1 : Int32)) K dX7_setsByBeats_7 (by decide) ?_
  refine j_aload_n K dX7_setsByBeats_8 rfl 0 rfl ?_
  obtain ⟨v9, e9, h⟩ := bd h
  refine fgX7_10 K dX7_setsByBeats_9 e9 ?_
  obtain ⟨v12, e12, h⟩ := bd h
  refine fgX7_93 K dX7_setsByBeats_12 e12 ?_
  refine j_ishl K dX7_setsByBeats_15 ?_
  refine j_icmp_ge K dX7_setsByBeats_16 (fun c16 => ?_) (fun c16 => ?_)
  · replace h := it c16 h
    refine j_iload_n K dX7_setsByBeats_46 rfl 3 rfl ?_
    exact j_iret K X dX7_setsByBeats_47 h
  · replace h := ie c16 h
    refine j_iload K dX7_setsByBeats_19 4 rfl ?_
    refine j_iload_n K dX7_setsByBeats_21 rfl 2 rfl ?_
    refine j_iand K dX7_setsByBeats_22 ?_
    refine j_iload_n K dX7_setsByBeats_23 rfl 2 rfl ?_
    refine j_icmp_ne K dX7_setsByBeats_24 (fun c24 => ?_) (fun c24 => ?_)
    · replace h := ie c24 h
      exact w_X7_setsByBeats_40 K X hk5 h
    · replace h := it c24 h
      refine j_aload_n K dX7_setsByBeats_27 rfl 0 rfl ?_
      refine j_iload K dX7_setsByBeats_28 4 rfl ?_
      obtain ⟨w30, ew30, h⟩ := bd h
      have ho30 := obS ew30
      obtain ⟨v30, S30, e30, h⟩ := bd2 h
      refine j_cI (st := []) K (r_V (vs := [vI x4]) (n := 1) (o := o) K (c_X7_strokesBySet e30) ho30 (by decide) rfl dX7_setsByBeats_30 z589 z591 zs18 z1 z592 ⟨zd_X7_strokesBySet, rfl, rfl, rfl, ⟨Nat.le_of_ble_eq_true rfl, Nat.le_of_ble_eq_true rfl⟩, Nat.le_of_ble_eq_true rfl, Nat.le_of_ble_eq_true rfl, Nat.le_of_ble_eq_true rfl⟩) rfl ?_
      refine j_iload_n K dX7_setsByBeats_33 rfl 1 rfl ?_
      refine j_icmp_ne K dX7_setsByBeats_34 (fun c34 => ?_) (fun c34 => ?_)
      · replace h := ie c34 h
        exact w_X7_setsByBeats_40 K X hk5 h
      · replace h := it c34 h
        refine j_iinc (q := 3) (v := (x3 + (1 : Int32))) (lv' := [(3, vI (x3 + (1 : Int32))), (0, vR (some o)), (1, vI x1), (2, vI x2), (4, vI x4)]) K dX7_setsByBeats_37 rfl rfl X.2.2.1 (by decide) rfl ?_
        exact j_sub [1, 2, 3, 0, 4] rfl (w_X7_setsByBeats_40 K X hk5 h)
def B_X7_setsByBeats_5 (fu : Nat) (o : Nat) (x1 : Int32) (x2 : Int32) : Nat → Hp → Int32 → Int32 → Option (Int32 × Hp)
  | 0 => fun _ _ _ => none
  | n + 1 => L_X7_setsByBeats_5 (B_X7_setsByBeats_5 fu o x1 x2 n) fu o x1 x2
theorem w_X7_setsByBeats_5 {E : Cx} {l : Launch} {res : Int32 × Hp} {ad : Nat → Nat} {fu : Nat} {o : Nat} {x1 : Int32} {x2 : Int32} (K : Kx E cX7_setsByBeats RX7 (rmd 2 0 0)) (X : Bx E l yX7_setsByBeats 5 (some .int) 0 0 ad (QI res)) : ∀ (n : Nat) (S : Hp) (x3 : Int32) (x4 : Int32), B_X7_setsByBeats_5 fu o x1 x2 n S x3 x4 = some res → J E 0 0 5 [(0, vR (some o)), (1, vI x1), (2, vI x2), (3, vI x3), (4, vI x4)] [] S ad := by
  intro n
  induction n with
  | zero =>
    intro S x3 x4 h
    cases h
  | succ n ih =>
    intro S x3 x4 h
    exact wl_X7_setsByBeats_5 K X ih h
def F_X7_setsByBeats (fu : Nat) (S : Hp) (o : Nat) (x1 : Int32) (x2 : Int32) : Option (Int32 × Hp) :=
  B_X7_setsByBeats_5 fu o x1 x2 fu S (0 : Int32) (0 : Int32)
set_option maxRecDepth 100000 in
set_option maxHeartbeats 4000000 in
theorem w_X7_setsByBeats {E : Cx} {l : Launch} {res : Int32 × Hp} {ad : Nat → Nat} {fu : Nat} {S : Hp} {o : Nat} {x1 : Int32} {x2 : Int32} (K : Kx E cX7_setsByBeats RX7 (rmd 2 0 0)) (X : Bx E l yX7_setsByBeats 5 (some .int) 0 0 ad (QI res)) (h : F_X7_setsByBeats fu S o x1 x2 = some res) : J E 0 0 0 [(0, vR (some o)), (1, vI x1), (2, vI x2)] [] S ad := by
  refine j_iconst (v := (0 : Int32)) K dX7_setsByBeats_0 (by decide) ?_
  refine j_istore_n (lv' := [(3, vI (0 : Int32)), (0, vR (some o)), (1, vI x1), (2, vI x2)]) K dX7_setsByBeats_1 rfl X.2.2.1 (by decide) rfl ?_
  refine j_iconst (v := (0 : Int32)) K dX7_setsByBeats_2 (by decide) ?_
  refine j_istore (lv' := [(4, vI (0 : Int32)), (3, vI (0 : Int32)), (0, vR (some o)), (1, vI x1), (2, vI x2)]) K dX7_setsByBeats_3 X.2.2.1 (by decide) rfl ?_
  exact j_sub [2, 3, 4, 1, 0] rfl (w_X7_setsByBeats_5 K X _ _ _ _ h)
theorem c_X7_setsByBeats {l : Launch} {fu : Nat} {S : Hp} {o : Nat} {x1 : Int32} {x2 : Int32} {res : Int32 × Hp} (h : F_X7_setsByBeats fu S o x1 x2 = some res) : Ct l yX7_setsByBeats cX7_setsByBeats 5 (some .int) (rmd 2 0 0) 0 0 [vR (some o), vI x1, vI x2] S (QI res) :=
  z_entry (by decide +kernel) (Nat.le_of_ble_eq_true rfl) (fun E ad K X => w_X7_setsByBeats K X h)

theorem dX7_leastSetByBeats_0 : decode cX7_leastSetByBeats 0 = .ok (.iconst 0, 1) ∧ 0 + 1 = 1 := ⟨by decide +kernel, rfl⟩
theorem dX7_leastSetByBeats_1 : decode cX7_leastSetByBeats 1 = .ok (.istore_n 2, 1) ∧ 1 + 1 = 2 := ⟨by decide +kernel, rfl⟩
theorem dX7_leastSetByBeats_2 : decode cX7_leastSetByBeats 2 = .ok (.iload_n 2, 1) ∧ 2 + 1 = 3 := ⟨by decide +kernel, rfl⟩
theorem dX7_leastSetByBeats_3 : decode cX7_leastSetByBeats 3 = .ok (.iconst 1, 1) ∧ 3 + 1 = 4 := ⟨by decide +kernel, rfl⟩
theorem dX7_leastSetByBeats_4 : decode cX7_leastSetByBeats 4 = .ok (.aload_n 0, 1) ∧ 4 + 1 = 5 := ⟨by decide +kernel, rfl⟩
theorem dX7_leastSetByBeats_5 : decode cX7_leastSetByBeats 5 = .ok (.getfield 10, 3) ∧ 5 + 3 = 8 := ⟨by decide +kernel, rfl⟩
theorem dX7_leastSetByBeats_8 : decode cX7_leastSetByBeats 8 = .ok (.getfield 93, 3) ∧ 8 + 3 = 11 := ⟨by decide +kernel, rfl⟩
theorem dX7_leastSetByBeats_11 : decode cX7_leastSetByBeats 11 = .ok (.ishl, 1) ∧ 11 + 1 = 12 := ⟨by decide +kernel, rfl⟩
theorem dX7_leastSetByBeats_12 : decode cX7_leastSetByBeats 12 = .ok (.if_icmp .ge 20, 3) ∧ 12 + 3 = 15 ∧ ((12 : Nat) : Int) + (20) = ((32 : Nat) : Int) := ⟨by decide +kernel, rfl, by decide⟩
theorem dX7_leastSetByBeats_15 : decode cX7_leastSetByBeats 15 = .ok (.aload_n 0, 1) ∧ 15 + 1 = 16 := ⟨by decide +kernel, rfl⟩
theorem dX7_leastSetByBeats_16 : decode cX7_leastSetByBeats 16 = .ok (.iload_n 2, 1) ∧ 16 + 1 = 17 := ⟨by decide +kernel, rfl⟩
theorem dX7_leastSetByBeats_17 : decode cX7_leastSetByBeats 17 = .ok (.invokevirtual 218, 3) := by decide +kernel
theorem dX7_leastSetByBeats_20 : decode cX7_leastSetByBeats 20 = .ok (.iload_n 1, 1) ∧ 20 + 1 = 21 := ⟨by decide +kernel, rfl⟩
theorem dX7_leastSetByBeats_21 : decode cX7_leastSetByBeats 21 = .ok (.if_icmp .ne 5, 3) ∧ 21 + 3 = 24 ∧ ((21 : Nat) : Int) + (5) = ((26 : Nat) : Int) := ⟨by decide +kernel, rfl, by decide⟩
theorem dX7_leastSetByBeats_24 : decode cX7_leastSetByBeats 24 = .ok (.iload_n 2, 1) ∧ 24 + 1 = 25 := ⟨by decide +kernel, rfl⟩
theorem dX7_leastSetByBeats_25 : decode cX7_leastSetByBeats 25 = .ok (.ireturn, 1) := by decide +kernel
theorem dX7_leastSetByBeats_26 : decode cX7_leastSetByBeats 26 = .ok (.iinc 2 1, 3) ∧ 26 + 3 = 29 := ⟨by decide +kernel, rfl⟩
theorem dX7_leastSetByBeats_29 : decode cX7_leastSetByBeats 29 = .ok (.goto (-27), 3) ∧ ((29 : Nat) : Int) + (-27) = ((2 : Nat) : Int) := ⟨by decide +kernel, by decide⟩
theorem dX7_leastSetByBeats_32 : decode cX7_leastSetByBeats 32 = .ok (.iconst (-1), 1) ∧ 32 + 1 = 33 := ⟨by decide +kernel, rfl⟩
theorem dX7_leastSetByBeats_33 : decode cX7_leastSetByBeats 33 = .ok (.ireturn, 1) := by decide +kernel
def L_X7_leastSetByBeats_2 (k2 : Hp → Int32 → Option (Int32 × Hp)) (fu : Nat) (o : Nat) (x1 : Int32) (S : Hp) (x2 : Int32) : Option (Int32 × Hp) :=
  (gR S (some o) 5 0).bind fun v5 =>
  (gI S v5 0 5).bind fun v8 =>
  if ((1 : Int32) <<< (v8 &&& 31)) ≤ x2 then
    some ((-1 : Int32), S)
  else
    (ob S 5 (some o)).bind fun _ =>
    b2 (F_X7_strokesBySet fu S o x2) fun v17 S17 =>
    if v17 = x1 then
      some (x2, S17)
    else
      k2 S17 (x2 + (1 : Int32))
set_option maxRecDepth 100000 in
set_option maxHeartbeats 4000000 in
theorem wl_X7_leastSetByBeats_2 {E : Cx} {l : Launch} {res : Int32 × Hp} {ad : Nat → Nat} {k2 : Hp → Int32 → Option (Int32 × Hp)} {fu : Nat} {o : Nat} {S : Hp} {x1 : Int32} {x2 : Int32} (K : Kx E cX7_leastSetByBeats RX7 (rmd 2 0 0)) (X : Bx E l yX7_leastSetByBeats 3 (some .int) 0 0 ad (QI res)) (hk2 : ∀ (S : Hp) (x2 : Int32), k2 S x2 = some res → J E 0 0 2 [(0, vR (some o)), (1, vI x1), (2, vI x2)] [] S ad) (h : L_X7_leastSetByBeats_2 k2 fu o x1 S x2 = some res) : J E 0 0 2 [(0, vR (some o)), (1, vI x1), (2, vI x2)] [] S ad := by
  refine j_iload_n K dX7_leastSetByBeats_2 rfl 2 rfl ?_
  refine j_iconst (v := (1 : Int32)) K dX7_leastSetByBeats_3 (by decide) ?_
  refine j_aload_n K dX7_leastSetByBeats_4 rfl 0 rfl ?_
  obtain ⟨v5, e5, h⟩ := bd h
  refine fgX7_10 K dX7_leastSetByBeats_5 e5 ?_
  obtain ⟨v8, e8, h⟩ := bd h
  refine fgX7_93 K dX7_leastSetByBeats_8 e8 ?_
  refine j_ishl K dX7_leastSetByBeats_11 ?_
  refine j_icmp_ge K dX7_leastSetByBeats_12 (fun c12 => ?_) (fun c12 => ?_)
  · replace h := it c12 h
    refine j_iconst (v := (-1 : Int32)) K dX7_leastSetByBeats_32 (by decide) ?_
    exact j_iret K X dX7_leastSetByBeats_33 h
  · replace h := ie c12 h
    refine j_aload_n K dX7_leastSetByBeats_15 rfl 0 rfl ?_
    refine j_iload_n K dX7_leastSetByBeats_16 rfl 2 rfl ?_
    obtain ⟨w17, ew17, h⟩ := bd h
    have ho17 := obS ew17
    obtain ⟨v17, S17, e17, h⟩ := bd2 h
    refine j_cI (st := []) K (r_V (vs := [vI x2]) (n := 1) (o := o) K (c_X7_strokesBySet e17) ho17 (by decide) rfl dX7_leastSetByBeats_17 z589 z591 zs18 z1 z592 ⟨zd_X7_strokesBySet, rfl, rfl, rfl, ⟨Nat.le_of_ble_eq_true rfl, Nat.le_of_ble_eq_true rfl⟩, Nat.le_of_ble_eq_true rfl, Nat.le_of_ble_eq_true rfl, Nat.le_of_ble_eq_true rfl⟩) rfl ?_
    refine j_iload_n K dX7_leastSetByBeats_20 rfl 1 rfl ?_
    refine j_icmp_ne K dX7_leastSetByBeats_21 (fun c21 => ?_) (fun c21 => ?_)
    · replace h := ie c21 h
      refine j_iinc (q := 2) (v := (x2 + (1 : Int32))) (lv' := [(2, vI (x2 + (1 : Int32))), (0, vR (some o)), (1, vI x1)]) K dX7_leastSetByBeats_26 rfl rfl X.2.2.1 (by decide) rfl ?_
      refine j_goto K dX7_leastSetByBeats_29 ?_
      exact j_sub [1, 2, 0] rfl (hk2 _ _ h)
    · replace h := it c21 h
      refine j_iload_n K dX7_leastSetByBeats_24 rfl 2 rfl ?_
      exact j_iret K X dX7_leastSetByBeats_25 h
def B_X7_leastSetByBeats_2 (fu : Nat) (o : Nat) (x1 : Int32) : Nat → Hp → Int32 → Option (Int32 × Hp)
  | 0 => fun _ _ => none
  | n + 1 => L_X7_leastSetByBeats_2 (B_X7_leastSetByBeats_2 fu o x1 n) fu o x1
theorem w_X7_leastSetByBeats_2 {E : Cx} {l : Launch} {res : Int32 × Hp} {ad : Nat → Nat} {fu : Nat} {o : Nat} {x1 : Int32} (K : Kx E cX7_leastSetByBeats RX7 (rmd 2 0 0)) (X : Bx E l yX7_leastSetByBeats 3 (some .int) 0 0 ad (QI res)) : ∀ (n : Nat) (S : Hp) (x2 : Int32), B_X7_leastSetByBeats_2 fu o x1 n S x2 = some res → J E 0 0 2 [(0, vR (some o)), (1, vI x1), (2, vI x2)] [] S ad := by
  intro n
  induction n with
  | zero =>
    intro S x2 h
    cases h
  | succ n ih =>
    intro S x2 h
    exact wl_X7_leastSetByBeats_2 K X ih h
def F_X7_leastSetByBeats (fu : Nat) (S : Hp) (o : Nat) (x1 : Int32) : Option (Int32 × Hp) :=
  B_X7_leastSetByBeats_2 fu o x1 fu S (0 : Int32)
set_option maxRecDepth 100000 in
set_option maxHeartbeats 4000000 in
theorem w_X7_leastSetByBeats {E : Cx} {l : Launch} {res : Int32 × Hp} {ad : Nat → Nat} {fu : Nat} {S : Hp} {o : Nat} {x1 : Int32} (K : Kx E cX7_leastSetByBeats RX7 (rmd 2 0 0)) (X : Bx E l yX7_leastSetByBeats 3 (some .int) 0 0 ad (QI res)) (h : F_X7_leastSetByBeats fu S o x1 = some res) : J E 0 0 0 [(0, vR (some o)), (1, vI x1)] [] S ad := by
  refine j_iconst (v := (0 : Int32)) K dX7_leastSetByBeats_0 (by decide) ?_
  refine j_istore_n (lv' := [(2, vI (0 : Int32)), (0, vR (some o)), (1, vI x1)]) K dX7_leastSetByBeats_1 rfl X.2.2.1 (by decide) rfl ?_
  exact j_sub [1, 2, 0] rfl (w_X7_leastSetByBeats_2 K X _ _ _ h)
theorem c_X7_leastSetByBeats {l : Launch} {fu : Nat} {S : Hp} {o : Nat} {x1 : Int32} {res : Int32 × Hp} (h : F_X7_leastSetByBeats fu S o x1 = some res) : Ct l yX7_leastSetByBeats cX7_leastSetByBeats 3 (some .int) (rmd 2 0 0) 0 0 [vR (some o), vI x1] S (QI res) :=
  z_entry (by decide +kernel) (Nat.le_of_ble_eq_true rfl) (fun E ad K X => w_X7_leastSetByBeats K X h)

theorem dX7_guess_0 : decode cX7_guess 0 = .ok (.aload_n 0, 1) ∧ 0 + 1 = 1 := ⟨by decide +kernel, rfl⟩
theorem dX7_guess_1 : decode cX7_guess 1 = .ok (.getfield 10, 3) ∧ 1 + 3 = 4 := ⟨by decide +kernel, rfl⟩
theorem dX7_guess_4 : decode cX7_guess 4 = .ok (.iload_n 1, 1) ∧ 4 + 1 = 5 := ⟨by decide +kernel, rfl⟩
theorem dX7_guess_5 : decode cX7_guess 5 = .ok (.invokevirtual 143, 3) := by decide +kernel
theorem dX7_guess_8 : decode cX7_guess 8 = .ok (.ifCond .ne 6, 3) ∧ 8 + 3 = 11 ∧ ((8 : Nat) : Int) + (6) = ((14 : Nat) : Int) := ⟨by decide +kernel, rfl, by decide⟩
theorem dX7_guess_11 : decode cX7_guess 11 = .ok (.bipush (-5), 2) ∧ 11 + 2 = 13 := ⟨by decide +kernel, rfl⟩
theorem dX7_guess_13 : decode cX7_guess 13 = .ok (.ireturn, 1) := by decide +kernel
theorem dX7_guess_14 : decode cX7_guess 14 = .ok (.iload_n 2, 1) ∧ 14 + 1 = 15 := ⟨by decide +kernel, rfl⟩
theorem dX7_guess_15 : decode cX7_guess 15 = .ok (.ifCond .lt 17, 3) ∧ 15 + 3 = 18 ∧ ((15 : Nat) : Int) + (17) = ((32 : Nat) : Int) := ⟨by decide +kernel, rfl, by decide⟩
theorem dX7_guess_18 : decode cX7_guess 18 = .ok (.iload_n 2, 1) ∧ 18 + 1 = 19 := ⟨by decide +kernel, rfl⟩
theorem dX7_guess_19 : decode cX7_guess 19 = .ok (.sipush 999, 3) ∧ 19 + 3 = 22 := ⟨by decide +kernel, rfl⟩
theorem dX7_guess_22 : decode cX7_guess 22 = .ok (.if_icmp .gt 10, 3) ∧ 22 + 3 = 25 ∧ ((22 : Nat) : Int) + (10) = ((32 : Nat) : Int) := ⟨by decide +kernel, rfl, by decide⟩
theorem dX7_guess_25 : decode cX7_guess 25 = .ok (.iload_n 3, 1) ∧ 25 + 1 = 26 := ⟨by decide +kernel, rfl⟩
theorem dX7_guess_26 : decode cX7_guess 26 = .ok (.invokestatic 155, 3) := by decide +kernel
theorem dX7_guess_29 : decode cX7_guess 29 = .ok (.ifCond .ne 6, 3) ∧ 29 + 3 = 32 ∧ ((29 : Nat) : Int) + (6) = ((35 : Nat) : Int) := ⟨by decide +kernel, rfl, by decide⟩
theorem dX7_guess_32 : decode cX7_guess 32 = .ok (.bipush (-7), 2) ∧ 32 + 2 = 34 := ⟨by decide +kernel, rfl⟩
theorem dX7_guess_34 : decode cX7_guess 34 = .ok (.ireturn, 1) := by decide +kernel
theorem dX7_guess_35 : decode cX7_guess 35 = .ok (.aload_n 0, 1) ∧ 35 + 1 = 36 := ⟨by decide +kernel, rfl⟩
theorem dX7_guess_36 : decode cX7_guess 36 = .ok (.getfield 10, 3) ∧ 36 + 3 = 39 := ⟨by decide +kernel, rfl⟩
theorem dX7_guess_39 : decode cX7_guess 39 = .ok (.iload_n 1, 1) ∧ 39 + 1 = 40 := ⟨by decide +kernel, rfl⟩
theorem dX7_guess_40 : decode cX7_guess 40 = .ok (.aload_n 0, 1) ∧ 40 + 1 = 41 := ⟨by decide +kernel, rfl⟩
theorem dX7_guess_41 : decode cX7_guess 41 = .ok (.getfield 58, 3) ∧ 41 + 3 = 44 := ⟨by decide +kernel, rfl⟩
theorem dX7_guess_44 : decode cX7_guess 44 = .ok (.invokevirtual 214, 3) := by decide +kernel
theorem dX7_guess_47 : decode cX7_guess 47 = .ok (.iload_n 3, 1) ∧ 47 + 1 = 48 := ⟨by decide +kernel, rfl⟩
theorem dX7_guess_48 : decode cX7_guess 48 = .ok (.ifCond .ne 12, 3) ∧ 48 + 3 = 51 ∧ ((48 : Nat) : Int) + (12) = ((60 : Nat) : Int) := ⟨by decide +kernel, rfl, by decide⟩
theorem dX7_guess_51 : decode cX7_guess 51 = .ok (.aload_n 0, 1) ∧ 51 + 1 = 52 := ⟨by decide +kernel, rfl⟩
theorem dX7_guess_52 : decode cX7_guess 52 = .ok (.iload_n 2, 1) ∧ 52 + 1 = 53 := ⟨by decide +kernel, rfl⟩
theorem dX7_guess_53 : decode cX7_guess 53 = .ok (.iconst 0, 1) ∧ 53 + 1 = 54 := ⟨by decide +kernel, rfl⟩
theorem dX7_guess_54 : decode cX7_guess 54 = .ok (.invokevirtual 240, 3) := by decide +kernel
theorem dX7_guess_57 : decode cX7_guess 57 = .ok (.goto 8, 3) ∧ ((57 : Nat) : Int) + (8) = ((65 : Nat) : Int) := ⟨by decide +kernel, by decide⟩
theorem dX7_guess_60 : decode cX7_guess 60 = .ok (.aload_n 0, 1) ∧ 60 + 1 = 61 := ⟨by decide +kernel, rfl⟩
theorem dX7_guess_61 : decode cX7_guess 61 = .ok (.iload_n 2, 1) ∧ 61 + 1 = 62 := ⟨by decide +kernel, rfl⟩
theorem dX7_guess_62 : decode cX7_guess 62 = .ok (.invokevirtual 243, 3) := by decide +kernel
theorem dX7_guess_65 : decode cX7_guess 65 = .ok (.ireturn, 1) := by decide +kernel
def B_X7_guess_32 (fu : Nat) (o : Nat) (S : Hp) : Option (Int32 × Hp) :=
  some ((-7 : Int32), S)
set_option maxRecDepth 100000 in
set_option maxHeartbeats 4000000 in
theorem w_X7_guess_32 {E : Cx} {l : Launch} {res : Int32 × Hp} {ad : Nat → Nat} {fu : Nat} {o : Nat} {S : Hp} (K : Kx E cX7_guess RX7 (rmd 5 0 0)) (X : Bx E l yX7_guess 4 (some .int) 0 0 ad (QI res)) (h : B_X7_guess_32 fu o S = some res) : J E 0 0 32 [] [] S ad := by
  refine j_bipush (v := (-7 : Int32)) K dX7_guess_32 (by decide) ?_
  exact j_iret K X dX7_guess_34 h
def B_X7_guess_65 (fu : Nat) (o : Nat) (S : Hp) (s0 : Int32) : Option (Int32 × Hp) :=
  some (s0, S)
set_option maxRecDepth 100000 in
set_option maxHeartbeats 4000000 in
theorem w_X7_guess_65 {E : Cx} {l : Launch} {res : Int32 × Hp} {ad : Nat → Nat} {fu : Nat} {o : Nat} {S : Hp} {s0 : Int32} (K : Kx E cX7_guess RX7 (rmd 5 0 0)) (X : Bx E l yX7_guess 4 (some .int) 0 0 ad (QI res)) (h : B_X7_guess_65 fu o S s0 = some res) : J E 0 0 65 [] [vI s0] S ad := by
  exact j_iret K X dX7_guess_65 h
def F_X7_guess (fu : Nat) (S : Hp) (o : Nat) (x1 : Int32) (x2 : Int32) (x3 : Int32) : Option (Int32 × Hp) :=
  (gR S (some o) 5 0).bind fun v1 =>
  (ob S 0 v1).bind fun o5 =>
  b2 (F_X0_hasPerson S o5 x1) fun v5 S5 =>
  if v5 = 0 then
    some ((-5 : Int32), S5)
  else
    if x2 < 0 then
      B_X7_guess_32 fu o S5
    else
      if (999 : Int32) < x2 then
        B_X7_guess_32 fu o S5
      else
        b2 (F_X7_isZeroOrOne S5 x3) fun v26 S26 =>
        if v26 = 0 then
          B_X7_guess_32 fu o S26
        else
          (gR S26 (some o) 5 0).bind fun v36 =>
          (gR S26 (some o) 5 9).bind fun v41 =>
          (ob S26 0 v36).bind fun o44 =>
          (F_X0_fillStrokes fu S26 o44 x1 v41).bind fun S44 =>
          if x3 = 0 then
            (ob S44 5 (some o)).bind fun _ =>
            b2 (F_X7_setsByBeats fu S44 o x2 (0 : Int32)) fun v54 S54 =>
            B_X7_guess_65 fu o S54 v54
          else
            (ob S44 5 (some o)).bind fun _ =>
            b2 (F_X7_leastSetByBeats fu S44 o x2) fun v62 S62 =>
            B_X7_guess_65 fu o S62 v62
set_option maxRecDepth 100000 in
set_option maxHeartbeats 4000000 in
theorem w_X7_guess {E : Cx} {l : Launch} {res : Int32 × Hp} {ad : Nat → Nat} {fu : Nat} {S : Hp} {o : Nat} {x1 : Int32} {x2 : Int32} {x3 : Int32} (K : Kx E cX7_guess RX7 (rmd 5 0 0)) (X : Bx E l yX7_guess 4 (some .int) 0 0 ad (QI res)) (h : F_X7_guess fu S o x1 x2 x3 = some res) : J E 0 0 0 [(0, vR (some o)), (1, vI x1), (2, vI x2), (3, vI x3)] [] S ad := by
  refine j_aload_n K dX7_guess_0 rfl 0 rfl ?_
  obtain ⟨v1, e1, h⟩ := bd h
  refine fgX7_10 K dX7_guess_1 e1 ?_
  refine j_iload_n K dX7_guess_4 rfl 1 rfl ?_
  obtain ⟨o5, ew5, hz5⟩ := bd h
  obtain ⟨er5, ho5⟩ := ob_some ew5
  subst er5
  have h := hz5
  obtain ⟨v5, S5, e5, h⟩ := bd2 h
  refine j_cI (st := []) K (r_V (vs := [vI x1]) (n := 1) (o := o5) K (c_X0_hasPerson e5) ho5 (by decide) rfl dX7_guess_5 z461 z462 z463 z2 z464 ⟨zd_X0_hasPerson, rfl, rfl, rfl, ⟨Nat.le_of_ble_eq_true rfl, Nat.le_of_ble_eq_true rfl⟩, Nat.le_of_ble_eq_true rfl, Nat.le_of_ble_eq_true rfl, Nat.le_of_ble_eq_true rfl⟩) rfl ?_
  refine j_if_ne K dX7_guess_8 (fun c8 => ?_) (fun c8 => ?_)
  · replace h := ie c8 h
    refine j_iload_n K dX7_guess_14 rfl 2 rfl ?_
    refine j_if_lt K dX7_guess_15 (fun c15 => ?_) (fun c15 => ?_)
    · replace h := it c15 h
      exact j_sub [] rfl (w_X7_guess_32 K X h)
    · replace h := ie c15 h
      refine j_iload_n K dX7_guess_18 rfl 2 rfl ?_
      refine j_sipush (v := (999 : Int32)) K dX7_guess_19 (by decide) ?_
      refine j_icmp_gt K dX7_guess_22 (fun c22 => ?_) (fun c22 => ?_)
      · replace h := it c22 h
        exact j_sub [] rfl (w_X7_guess_32 K X h)
      · replace h := ie c22 h
        refine j_iload_n K dX7_guess_25 rfl 3 rfl ?_
        obtain ⟨v26, S26, e26, h⟩ := bd2 h
        refine j_cI (st := []) K (r_S (vs := [vI x3]) (n := 1) K (c_X7_isZeroOrOne e26) dX7_guess_26 z497 z498 z1 z499 ⟨zd_X7_isZeroOrOne, rfl, rfl, rfl, ⟨Nat.le_of_ble_eq_true rfl, Nat.le_of_ble_eq_true rfl⟩, Nat.le_of_ble_eq_true rfl, Nat.le_of_ble_eq_true rfl, Nat.le_of_ble_eq_true rfl⟩) rfl ?_
        refine j_if_ne K dX7_guess_29 (fun c29 => ?_) (fun c29 => ?_)
        · replace h := ie c29 h
          refine j_aload_n K dX7_guess_35 rfl 0 rfl ?_
          obtain ⟨v36, e36, h⟩ := bd h
          refine fgX7_10 K dX7_guess_36 e36 ?_
          refine j_iload_n K dX7_guess_39 rfl 1 rfl ?_
          refine j_aload_n K dX7_guess_40 rfl 0 rfl ?_
          obtain ⟨v41, e41, h⟩ := bd h
          refine fgX7_58 K dX7_guess_41 e41 ?_
          obtain ⟨o44, ew44, hz44⟩ := bd h
          obtain ⟨er44, ho44⟩ := ob_some ew44
          subst er44
          have h := hz44
          obtain ⟨S44, e44, h⟩ := bd h
          refine j_cV (st := []) K (r_V (vs := [vI x1, vR v41]) (n := 2) (o := o44) K (c_X0_fillStrokes e44) ho44 (by decide) rfl dX7_guess_44 z585 z586 z587 z2 z588 ⟨zd_X0_fillStrokes, rfl, rfl, rfl, ⟨Nat.le_of_ble_eq_true rfl, Nat.le_of_ble_eq_true rfl⟩, Nat.le_of_ble_eq_true rfl, Nat.le_of_ble_eq_true rfl, Nat.le_of_ble_eq_true rfl⟩) rfl ?_
          refine j_iload_n K dX7_guess_47 rfl 3 rfl ?_
          refine j_if_ne K dX7_guess_48 (fun c48 => ?_) (fun c48 => ?_)
          · replace h := ie c48 h
            refine j_aload_n K dX7_guess_60 rfl 0 rfl ?_
            refine j_iload_n K dX7_guess_61 rfl 2 rfl ?_
            obtain ⟨w62, ew62, h⟩ := bd h
            have ho62 := obS ew62
            obtain ⟨v62, S62, e62, h⟩ := bd2 h
            refine j_cI (st := []) K (r_V (vs := [vI x2]) (n := 1) (o := o) K (c_X7_leastSetByBeats e62) ho62 (by decide) rfl dX7_guess_62 z651 z653 zs20 z1 z654 ⟨zd_X7_leastSetByBeats, rfl, rfl, rfl, ⟨Nat.le_of_ble_eq_true rfl, Nat.le_of_ble_eq_true rfl⟩, Nat.le_of_ble_eq_true rfl, Nat.le_of_ble_eq_true rfl, Nat.le_of_ble_eq_true rfl⟩) rfl ?_
            exact j_sub [] rfl (w_X7_guess_65 K X h)
          · replace h := it c48 h
            refine j_aload_n K dX7_guess_51 rfl 0 rfl ?_
            refine j_iload_n K dX7_guess_52 rfl 2 rfl ?_
            refine j_iconst (v := (0 : Int32)) K dX7_guess_53 (by decide) ?_
            obtain ⟨w54, ew54, h⟩ := bd h
            have ho54 := obS ew54
            obtain ⟨v54, S54, e54, h⟩ := bd2 h
            refine j_cI (st := []) K (r_V (vs := [vI x2, vI (0 : Int32)]) (n := 2) (o := o) K (c_X7_setsByBeats e54) ho54 (by decide) rfl dX7_guess_54 z647 z649 zs19 z1 z650 ⟨zd_X7_setsByBeats, rfl, rfl, rfl, ⟨Nat.le_of_ble_eq_true rfl, Nat.le_of_ble_eq_true rfl⟩, Nat.le_of_ble_eq_true rfl, Nat.le_of_ble_eq_true rfl, Nat.le_of_ble_eq_true rfl⟩) rfl ?_
            refine j_goto K dX7_guess_57 ?_
            exact j_sub [] rfl (w_X7_guess_65 K X h)
        · replace h := it c29 h
          exact j_sub [] rfl (w_X7_guess_32 K X h)
  · replace h := it c8 h
    refine j_bipush (v := (-5 : Int32)) K dX7_guess_11 (by decide) ?_
    exact j_iret K X dX7_guess_13 h
theorem c_X7_guess {l : Launch} {fu : Nat} {S : Hp} {o : Nat} {x1 : Int32} {x2 : Int32} {x3 : Int32} {res : Int32 × Hp} (h : F_X7_guess fu S o x1 x2 x3 = some res) : Ct l yX7_guess cX7_guess 4 (some .int) (rmd 5 0 0) 0 0 [vR (some o), vI x1, vI x2, vI x3] S (QI res) :=
  z_entry (by decide +kernel) (Nat.le_of_ble_eq_true rfl) (fun E ad K X => w_X7_guess K X h)

theorem dX7_greatestDivisor_0 : decode cX7_greatestDivisor 0 = .ok (.iload_n 0, 1) ∧ 0 + 1 = 1 := ⟨by decide +kernel, rfl⟩
theorem dX7_greatestDivisor_1 : decode cX7_greatestDivisor 1 = .ok (.istore_n 2, 1) ∧ 1 + 1 = 2 := ⟨by decide +kernel, rfl⟩
theorem dX7_greatestDivisor_2 : decode cX7_greatestDivisor 2 = .ok (.iload_n 1, 1) ∧ 2 + 1 = 3 := ⟨by decide +kernel, rfl⟩
theorem dX7_greatestDivisor_3 : decode cX7_greatestDivisor 3 = .ok (.istore_n 3, 1) ∧ 3 + 1 = 4 := ⟨by decide +kernel, rfl⟩
theorem dX7_greatestDivisor_4 : decode cX7_greatestDivisor 4 = .ok (.iconst 0, 1) ∧ 4 + 1 = 5 := ⟨by decide +kernel, rfl⟩
theorem dX7_greatestDivisor_5 : decode cX7_greatestDivisor 5 = .ok (.istore 4, 2) ∧ 5 + 2 = 7 := ⟨by decide +kernel, rfl⟩
theorem dX7_greatestDivisor_7 : decode cX7_greatestDivisor 7 = .ok (.iload 4, 2) ∧ 7 + 2 = 9 := ⟨by decide +kernel, rfl⟩
theorem dX7_greatestDivisor_9 : decode cX7_greatestDivisor 9 = .ok (.sipush 1000, 3) ∧ 9 + 3 = 12 := ⟨by decide +kernel, rfl⟩
theorem dX7_greatestDivisor_12 : decode cX7_greatestDivisor 12 = .ok (.if_icmp .ge 23, 3) ∧ 12 + 3 = 15 ∧ ((12 : Nat) : Int) + (23) = ((35 : Nat) : Int) := ⟨by decide +kernel, rfl, by decide⟩
theorem dX7_greatestDivisor_15 : decode cX7_greatestDivisor 15 = .ok (.iload_n 3, 1) ∧ 15 + 1 = 16 := ⟨by decide +kernel, rfl⟩
theorem dX7_greatestDivisor_16 : decode cX7_greatestDivisor 16 = .ok (.ifCond .eq 19, 3) ∧ 16 + 3 = 19 ∧ ((16 : Nat) : Int) + (19) = ((35 : Nat) : Int) := ⟨by decide +kernel, rfl, by decide⟩
theorem dX7_greatestDivisor_19 : decode cX7_greatestDivisor 19 = .ok (.iload_n 2, 1) ∧ 19 + 1 = 20 := ⟨by decide +kernel, rfl⟩
theorem dX7_greatestDivisor_20 : decode cX7_greatestDivisor 20 = .ok (.iload_n 3, 1) ∧ 20 + 1 = 21 := ⟨by decide +kernel, rfl⟩
theorem dX7_greatestDivisor_21 : decode cX7_greatestDivisor 21 = .ok (.irem, 1) ∧ 21 + 1 = 22 := ⟨by decide +kernel, rfl⟩
theorem dX7_greatestDivisor_22 : decode cX7_greatestDivisor 22 = .ok (.istore 5, 2) ∧ 22 + 2 = 24 := ⟨by decide +kernel, rfl⟩
theorem dX7_greatestDivisor_24 : decode cX7_greatestDivisor 24 = .ok (.iload_n 3, 1) ∧ 24 + 1 = 25 := ⟨by decide +kernel, rfl⟩
theorem dX7_greatestDivisor_25 : decode cX7_greatestDivisor 25 = .ok (.istore_n 2, 1) ∧ 25 + 1 = 26 := ⟨by decide +kernel, rfl⟩
theorem dX7_greatestDivisor_26 : decode cX7_greatestDivisor 26 = .ok (.iload 5, 2) ∧ 26 + 2 = 28 := ⟨by decide +kernel, rfl⟩
theorem dX7_greatestDivisor_28 : decode cX7_greatestDivisor 28 = .ok (.istore_n 3, 1) ∧ 28 + 1 = 29 := ⟨by decide +kernel, rfl⟩
theorem dX7_greatestDivisor_29 : decode cX7_greatestDivisor 29 = .ok (.iinc 4 1, 3) ∧ 29 + 3 = 32 := ⟨by decide +kernel, rfl⟩
theorem dX7_greatestDivisor_32 : decode cX7_greatestDivisor 32 = .ok (.goto (-25), 3) ∧ ((32 : Nat) : Int) + (-25) = ((7 : Nat) : Int) := ⟨by decide +kernel, by decide⟩
theorem dX7_greatestDivisor_35 : decode cX7_greatestDivisor 35 = .ok (.iload_n 2, 1) ∧ 35 + 1 = 36 := ⟨by decide +kernel, rfl⟩
theorem dX7_greatestDivisor_36 : decode cX7_greatestDivisor 36 = .ok (.ireturn, 1) := by decide +kernel
def B_X7_greatestDivisor_35 (fu : Nat) (S : Hp) (x2 : Int32) : Option (Int32 × Hp) :=
  some (x2, S)
set_option maxRecDepth 100000 in
set_option maxHeartbeats 4000000 in
theorem w_X7_greatestDivisor_35 {E : Cx} {l : Launch} {res : Int32 × Hp} {ad : Nat → Nat} {fu : Nat} {S : Hp} {x2 : Int32} (K : Kx E cX7_greatestDivisor RX7 (rmd 0 0 0)) (X : Bx E l yX7_greatestDivisor 6 (some .int) 0 0 ad (QI res)) (h : B_X7_greatestDivisor_35 fu S x2 = some res) : J E 0 0 35 [(2, vI x2)] [] S ad := by
  refine j_iload_n K dX7_greatestDivisor_35 rfl 0 rfl ?_
  exact j_iret K X dX7_greatestDivisor_36 h
def L_X7_greatestDivisor_7 (k7 : Hp → Int32 → Int32 → Int32 → Option (Int32 × Hp)) (fu : Nat) (S : Hp) (x2 : Int32) (x3 : Int32) (x4 : Int32) : Option (Int32 × Hp) :=
  if (1000 : Int32) ≤ x4 then
    B_X7_greatestDivisor_35 fu S x2
  else
    if x3 = 0 then
      B_X7_greatestDivisor_35 fu S x2
    else
      if x3 = 0 then none else
      k7 S x3 (x2 - x2 / x3 * x3) (x4 + (1 : Int32))
set_option maxRecDepth 100000 in
set_option maxHeartbeats 4000000 in
theorem wl_X7_greatestDivisor_7 {E : Cx} {l : Launch} {res : Int32 × Hp} {ad : Nat → Nat} {k7 : Hp → Int32 → Int32 → Int32 → Option (Int32 × Hp)} {fu : Nat} {S : Hp} {x2 : Int32} {x3 : Int32} {x4 : Int32} (K : Kx E cX7_greatestDivisor RX7 (rmd 0 0 0)) (X : Bx E l yX7_greatestDivisor 6 (some .int) 0 0 ad (QI res)) (hk7 : ∀ (S : Hp) (x2 : Int32) (x3 : Int32) (x4 : Int32), k7 S x2 x3 x4 = some res → J E 0 0 7 [(2, vI x2), (3, vI x3), (4, vI x4)] [] S ad) (h : L_X7_greatestDivisor_7 k7 fu S x2 x3 x4 = some res) : J E 0 0 7 [(2, vI x2), (3, vI x3), (4, vI x4)] [] S ad := by
  refine j_iload K dX7_greatestDivisor_7 2 rfl ?_
  refine j_sipush (v := (1000 : Int32)) K dX7_greatestDivisor_9 (by decide) ?_
  refine j_icmp_ge K dX7_greatestDivisor_12 (fun c12 => ?_) (fun c12 => ?_)
  · replace h := it c12 h
    exact j_sub [0] rfl (w_X7_greatestDivisor_35 K X h)
  · replace h := ie c12 h
    refine j_iload_n K dX7_greatestDivisor_15 rfl 1 rfl ?_
    refine j_if_eq K dX7_greatestDivisor_16 (fun c16 => ?_) (fun c16 => ?_)
    · replace h := it c16 h
      exact j_sub [0] rfl (w_X7_greatestDivisor_35 K X h)
    · replace h := ie c16 h
      refine j_iload_n K dX7_greatestDivisor_19 rfl 0 rfl ?_
      refine j_iload_n K dX7_greatestDivisor_20 rfl 1 rfl ?_
      have c21 : ¬ x3 = 0 := fun q => by cases it q h
      replace h := ie c21 h
      refine j_irem K dX7_greatestDivisor_21 c21 ?_
      refine j_istore (lv' := [(5, vI (x2 - x2 / x3 * x3)), (2, vI x2), (3, vI x3), (4, vI x4)]) K dX7_greatestDivisor_22 X.2.2.1 (by decide) rfl ?_
      refine j_iload_n K dX7_greatestDivisor_24 rfl 2 rfl ?_
      refine j_istore_n (lv' := [(2, vI x3), (5, vI (x2 - x2 / x3 * x3)), (3, vI x3), (4, vI x4)]) K dX7_greatestDivisor_25 rfl X.2.2.1 (by decide) rfl ?_
      refine j_iload K dX7_greatestDivisor_26 1 rfl ?_
      refine j_istore_n (lv' := [(3, vI (x2 - x2 / x3 * x3)), (2, vI x3), (5, vI (x2 - x2 / x3 * x3)), (4, vI x4)]) K dX7_greatestDivisor_28 rfl X.2.2.1 (by decide) rfl ?_
      refine j_iinc (q := 3) (v := (x4 + (1 : Int32))) (lv' := [(4, vI (x4 + (1 : Int32))), (3, vI (x2 - x2 / x3 * x3)), (2, vI x3), (5, vI (x2 - x2 / x3 * x3))]) K dX7_greatestDivisor_29 rfl rfl X.2.2.1 (by decide) rfl ?_
      refine j_goto K dX7_greatestDivisor_32 ?_
      exact j_sub [2, 1, 0] rfl (hk7 _ _ _ _ h)
def B_X7_greatestDivisor_7 (fu : Nat) : Nat → Hp → Int32 → Int32 → Int32 → Option (Int32 × Hp)
  | 0 => fun _ _ _ _ => none
  | n + 1 => L_X7_greatestDivisor_7 (B_X7_greatestDivisor_7 fu n) fu
theorem w_X7_greatestDivisor_7 {E : Cx} {l : Launch} {res : Int32 × Hp} {ad : Nat → Nat} {fu : Nat} (K : Kx E cX7_greatestDivisor RX7 (rmd 0 0 0)) (X : Bx E l yX7_greatestDivisor 6 (some .int) 0 0 ad (QI res)) : ∀ (n : Nat) (S : Hp) (x2 : Int32) (x3 : Int32) (x4 : Int32), B_X7_greatestDivisor_7 fu n S x2 x3 x4 = some res → J E 0 0 7 [(2, vI x2), (3, vI x3), (4, vI x4)] [] S ad := by
  intro n
  induction n with
  | zero =>
    intro S x2 x3 x4 h
    cases h
  | succ n ih =>
    intro S x2 x3 x4 h
    exact wl_X7_greatestDivisor_7 K X ih h
def F_X7_greatestDivisor (fu : Nat) (S : Hp) (x0 : Int32) (x1 : Int32) : Option (Int32 × Hp) :=
  B_X7_greatestDivisor_7 fu fu S x0 x1 (0 : Int32)
set_option maxRecDepth 100000 in
set_option maxHeartbeats 4000000 in
theorem w_X7_greatestDivisor {E : Cx} {l : Launch} {res : Int32 × Hp} {ad : Nat → Nat} {fu : Nat} {S : Hp} {x0 : Int32} {x1 : Int32} (K : Kx E cX7_greatestDivisor RX7 (rmd 0 0 0)) (X : Bx E l yX7_greatestDivisor 6 (some .int) 0 0 ad (QI res)) (h : F_X7_greatestDivisor fu S x0 x1 = some res) : J E 0 0 0 [(0, vI x0), (1, vI x1)] [] S ad := by
  refine j_iload_n K dX7_greatestDivisor_0 rfl 0 rfl ?_
  refine j_istore_n (lv' := [(2, vI x0), (0, vI x0), (1, vI x1)]) K dX7_greatestDivisor_1 rfl X.2.2.1 (by decide) rfl ?_
  refine j_iload_n K dX7_greatestDivisor_2 rfl 2 rfl ?_
  refine j_istore_n (lv' := [(3, vI x1), (2, vI x0), (0, vI x0), (1, vI x1)]) K dX7_greatestDivisor_3 rfl X.2.2.1 (by decide) rfl ?_
  refine j_iconst (v := (0 : Int32)) K dX7_greatestDivisor_4 (by decide) ?_
  refine j_istore (lv' := [(4, vI (0 : Int32)), (3, vI x1), (2, vI x0), (0, vI x0), (1, vI x1)]) K dX7_greatestDivisor_5 X.2.2.1 (by decide) rfl ?_
  exact j_sub [2, 1, 0] rfl (w_X7_greatestDivisor_7 K X _ _ _ _ _ h)
theorem c_X7_greatestDivisor {l : Launch} {fu : Nat} {S : Hp} {x0 : Int32} {x1 : Int32} {res : Int32 × Hp} (h : F_X7_greatestDivisor fu S x0 x1 = some res) : Ct l yX7_greatestDivisor cX7_greatestDivisor 6 (some .int) (rmd 0 0 0) 0 0 [vI x0, vI x1] S (QI res) :=
  z_entry (by decide +kernel) (Nat.le_of_ble_eq_true rfl) (fun E ad K X => w_X7_greatestDivisor K X h)

theorem dX7_inLowestTerms_0 : decode cX7_inLowestTerms 0 = .ok (.iload_n 0, 1) ∧ 0 + 1 = 1 := ⟨by decide +kernel, rfl⟩
theorem dX7_inLowestTerms_1 : decode cX7_inLowestTerms 1 = .ok (.iload_n 1, 1) ∧ 1 + 1 = 2 := ⟨by decide +kernel, rfl⟩
theorem dX7_inLowestTerms_2 : decode cX7_inLowestTerms 2 = .ok (.invokestatic 319, 3) := by decide +kernel
theorem dX7_inLowestTerms_5 : decode cX7_inLowestTerms 5 = .ok (.istore_n 3, 1) ∧ 5 + 1 = 6 := ⟨by decide +kernel, rfl⟩
theorem dX7_inLowestTerms_6 : decode cX7_inLowestTerms 6 = .ok (.iload_n 1, 1) ∧ 6 + 1 = 7 := ⟨by decide +kernel, rfl⟩
theorem dX7_inLowestTerms_7 : decode cX7_inLowestTerms 7 = .ok (.ifCond .le 7, 3) ∧ 7 + 3 = 10 ∧ ((7 : Nat) : Int) + (7) = ((14 : Nat) : Int) := ⟨by decide +kernel, rfl, by decide⟩
theorem dX7_inLowestTerms_10 : decode cX7_inLowestTerms 10 = .ok (.iload_n 3, 1) ∧ 10 + 1 = 11 := ⟨by decide +kernel, rfl⟩
theorem dX7_inLowestTerms_11 : decode cX7_inLowestTerms 11 = .ok (.ifCond .gt 7, 3) ∧ 11 + 3 = 14 ∧ ((11 : Nat) : Int) + (7) = ((18 : Nat) : Int) := ⟨by decide +kernel, rfl, by decide⟩
theorem dX7_inLowestTerms_14 : decode cX7_inLowestTerms 14 = .ok (.ldc2_w 246, 3) ∧ 14 + 3 = 17 := ⟨by decide +kernel, rfl⟩
theorem dX7_inLowestTerms_17 : decode cX7_inLowestTerms 17 = .ok (.lreturn, 1) := by decide +kernel
theorem dX7_inLowestTerms_18 : decode cX7_inLowestTerms 18 = .ok (.iload_n 2, 1) ∧ 18 + 1 = 19 := ⟨by decide +kernel, rfl⟩
theorem dX7_inLowestTerms_19 : decode cX7_inLowestTerms 19 = .ok (.ifCond .ne 7, 3) ∧ 19 + 3 = 22 ∧ ((19 : Nat) : Int) + (7) = ((26 : Nat) : Int) := ⟨by decide +kernel, rfl, by decide⟩
theorem dX7_inLowestTerms_22 : decode cX7_inLowestTerms 22 = .ok (.iload_n 0, 1) ∧ 22 + 1 = 23 := ⟨by decide +kernel, rfl⟩
theorem dX7_inLowestTerms_23 : decode cX7_inLowestTerms 23 = .ok (.goto 4, 3) ∧ ((23 : Nat) : Int) + (4) = ((27 : Nat) : Int) := ⟨by decide +kernel, by decide⟩
theorem dX7_inLowestTerms_26 : decode cX7_inLowestTerms 26 = .ok (.iload_n 1, 1) ∧ 26 + 1 = 27 := ⟨by decide +kernel, rfl⟩
theorem dX7_inLowestTerms_27 : decode cX7_inLowestTerms 27 = .ok (.iload_n 3, 1) ∧ 27 + 1 = 28 := ⟨by decide +kernel, rfl⟩
theorem dX7_inLowestTerms_28 : decode cX7_inLowestTerms 28 = .ok (.idiv, 1) ∧ 28 + 1 = 29 := ⟨by decide +kernel, rfl⟩
theorem dX7_inLowestTerms_29 : decode cX7_inLowestTerms 29 = .ok (.i2l, 1) ∧ 29 + 1 = 30 := ⟨by decide +kernel, rfl⟩
theorem dX7_inLowestTerms_30 : decode cX7_inLowestTerms 30 = .ok (.lreturn, 1) := by decide +kernel
def B_X7_inLowestTerms_14 (fu : Nat) (S : Hp) : Option (Int64 × Hp) :=
  some ((-4611686018427387904 : Int64), S)
set_option maxRecDepth 100000 in
set_option maxHeartbeats 4000000 in
theorem w_X7_inLowestTerms_14 {E : Cx} {l : Launch} {res : Int64 × Hp} {ad : Nat → Nat} {fu : Nat} {S : Hp} (K : Kx E cX7_inLowestTerms RX7 (rmd 1 0 0)) (X : Bx E l yX7_inLowestTerms 4 (some .long) 0 0 ad (QL res)) (h : B_X7_inLowestTerms_14 fu S = some res) : J E 0 0 14 [] [] S ad := by
  refine j_ldc2 K dX7_inLowestTerms_14 z659 ?_
  exact j_lret K X dX7_inLowestTerms_17 h
def B_X7_inLowestTerms_27 (fu : Nat) (S : Hp) (x3 : Int32) (s0 : Int32) : Option (Int64 × Hp) :=
  if x3 = 0 then none else
  some ((s0 / x3).toInt64, S)
set_option maxRecDepth 100000 in
set_option maxHeartbeats 4000000 in
theorem w_X7_inLowestTerms_27 {E : Cx} {l : Launch} {res : Int64 × Hp} {ad : Nat → Nat} {fu : Nat} {S : Hp} {x3 : Int32} {s0 : Int32} (K : Kx E cX7_inLowestTerms RX7 (rmd 1 0 0)) (X : Bx E l yX7_inLowestTerms 4 (some .long) 0 0 ad (QL res)) (h : B_X7_inLowestTerms_27 fu S x3 s0 = some res) : J E 0 0 27 [(3, vI x3)] [vI s0] S ad := by
  refine j_iload_n K dX7_inLowestTerms_27 rfl 0 rfl ?_
  have c28 : ¬ x3 = 0 := fun q => by cases it q h
  replace h := ie c28 h
  refine j_idiv K dX7_inLowestTerms_28 c28 ?_
  refine j_i2l K dX7_inLowestTerms_29 ?_
  exact j_lret K X dX7_inLowestTerms_30 h
def F_X7_inLowestTerms (fu : Nat) (S : Hp) (x0 : Int32) (x1 : Int32) (x2 : Int32) : Option (Int64 × Hp) :=
  b2 (F_X7_greatestDivisor fu S x0 x1) fun v2 S2 =>
  if x1 ≤ 0 then
    B_X7_inLowestTerms_14 fu S2
  else
    if 0 < v2 then
      if x2 = 0 then
        B_X7_inLowestTerms_27 fu S2 v2 x0
      else
        B_X7_inLowestTerms_27 fu S2 v2 x1
    else
      B_X7_inLowestTerms_14 fu S2
set_option maxRecDepth 100000 in
set_option maxHeartbeats 4000000 in
theorem w_X7_inLowestTerms {E : Cx} {l : Launch} {res : Int64 × Hp} {ad : Nat → Nat} {fu : Nat} {S : Hp} {x0 : Int32} {x1 : Int32} {x2 : Int32} (K : Kx E cX7_inLowestTerms RX7 (rmd 1 0 0)) (X : Bx E l yX7_inLowestTerms 4 (some .long) 0 0 ad (QL res)) (h : F_X7_inLowestTerms fu S x0 x1 x2 = some res) : J E 0 0 0 [(0, vI x0), (1, vI x1), (2, vI x2)] [] S ad := by
  refine j_iload_n K dX7_inLowestTerms_0 rfl 0 rfl ?_
  refine j_iload_n K dX7_inLowestTerms_1 rfl 1 rfl ?_
  obtain ⟨v2, S2, e2, h⟩ := bd2 h
  refine j_cI (st := []) K (r_S (vs := [vI x0, vI x1]) (n := 2) K (c_X7_greatestDivisor e2) dX7_inLowestTerms_2 z663 z664 z1 z665 ⟨zd_X7_greatestDivisor, rfl, rfl, rfl, ⟨Nat.le_of_ble_eq_true rfl, Nat.le_of_ble_eq_true rfl⟩, Nat.le_of_ble_eq_true rfl, Nat.le_of_ble_eq_true rfl, Nat.le_of_ble_eq_true rfl⟩) rfl ?_
  refine j_istore_n (lv' := [(3, vI v2), (0, vI x0), (1, vI x1), (2, vI x2)]) K dX7_inLowestTerms_5 rfl X.2.2.1 (by decide) rfl ?_
  refine j_iload_n K dX7_inLowestTerms_6 rfl 2 rfl ?_
  refine j_if_le K dX7_inLowestTerms_7 (fun c7 => ?_) (fun c7 => ?_)
  · replace h := it c7 h
    exact j_sub [] rfl (w_X7_inLowestTerms_14 K X h)
  · replace h := ie c7 h
    refine j_iload_n K dX7_inLowestTerms_10 rfl 0 rfl ?_
    refine j_if_gt K dX7_inLowestTerms_11 (fun c11 => ?_) (fun c11 => ?_)
    · replace h := it c11 h
      refine j_iload_n K dX7_inLowestTerms_18 rfl 3 rfl ?_
      refine j_if_ne K dX7_inLowestTerms_19 (fun c19 => ?_) (fun c19 => ?_)
      · replace h := ie c19 h
        refine j_iload_n K dX7_inLowestTerms_26 rfl 2 rfl ?_
        exact j_sub [0] rfl (w_X7_inLowestTerms_27 K X h)
      · replace h := it c19 h
        refine j_iload_n K dX7_inLowestTerms_22 rfl 1 rfl ?_
        refine j_goto K dX7_inLowestTerms_23 ?_
        exact j_sub [0] rfl (w_X7_inLowestTerms_27 K X h)
    · replace h := ie c11 h
      exact j_sub [] rfl (w_X7_inLowestTerms_14 K X h)
theorem c_X7_inLowestTerms {l : Launch} {fu : Nat} {S : Hp} {x0 : Int32} {x1 : Int32} {x2 : Int32} {res : Int64 × Hp} (h : F_X7_inLowestTerms fu S x0 x1 x2 = some res) : Ct l yX7_inLowestTerms cX7_inLowestTerms 4 (some .long) (rmd 1 0 0) 0 0 [vI x0, vI x1, vI x2] S (QL res) :=
  z_entry (by decide +kernel) (Nat.le_of_ble_eq_true rfl) (fun E ad K X => w_X7_inLowestTerms K X h)

theorem dX7_likely_0 : decode cX7_likely 0 = .ok (.aload_n 0, 1) ∧ 0 + 1 = 1 := ⟨by decide +kernel, rfl⟩
theorem dX7_likely_1 : decode cX7_likely 1 = .ok (.getfield 10, 3) ∧ 1 + 3 = 4 := ⟨by decide +kernel, rfl⟩
theorem dX7_likely_4 : decode cX7_likely 4 = .ok (.iload_n 1, 1) ∧ 4 + 1 = 5 := ⟨by decide +kernel, rfl⟩
theorem dX7_likely_5 : decode cX7_likely 5 = .ok (.invokevirtual 143, 3) := by decide +kernel
theorem dX7_likely_8 : decode cX7_likely 8 = .ok (.ifCond .eq 22, 3) ∧ 8 + 3 = 11 ∧ ((8 : Nat) : Int) + (22) = ((30 : Nat) : Int) := ⟨by decide +kernel, rfl, by decide⟩
theorem dX7_likely_11 : decode cX7_likely 11 = .ok (.aload_n 0, 1) ∧ 11 + 1 = 12 := ⟨by decide +kernel, rfl⟩
theorem dX7_likely_12 : decode cX7_likely 12 = .ok (.getfield 10, 3) ∧ 12 + 3 = 15 := ⟨by decide +kernel, rfl⟩
theorem dX7_likely_15 : decode cX7_likely 15 = .ok (.iload_n 3, 1) ∧ 15 + 1 = 16 := ⟨by decide +kernel, rfl⟩
theorem dX7_likely_16 : decode cX7_likely 16 = .ok (.invokevirtual 109, 3) := by decide +kernel
theorem dX7_likely_19 : decode cX7_likely 19 = .ok (.ifCond .eq 11, 3) ∧ 19 + 3 = 22 ∧ ((19 : Nat) : Int) + (11) = ((30 : Nat) : Int) := ⟨by decide +kernel, rfl, by decide⟩
theorem dX7_likely_22 : decode cX7_likely 22 = .ok (.iload 4, 2) ∧ 22 + 2 = 24 := ⟨by decide +kernel, rfl⟩
theorem dX7_likely_24 : decode cX7_likely 24 = .ok (.invokestatic 155, 3) := by decide +kernel
theorem dX7_likely_27 : decode cX7_likely 27 = .ok (.ifCond .ne 7, 3) ∧ 27 + 3 = 30 ∧ ((27 : Nat) : Int) + (7) = ((34 : Nat) : Int) := ⟨by decide +kernel, rfl, by decide⟩
theorem dX7_likely_30 : decode cX7_likely 30 = .ok (.ldc2_w 246, 3) ∧ 30 + 3 = 33 := ⟨by decide +kernel, rfl⟩
theorem dX7_likely_33 : decode cX7_likely 33 = .ok (.lreturn, 1) := by decide +kernel
theorem dX7_likely_34 : decode cX7_likely 34 = .ok (.aload_n 0, 1) ∧ 34 + 1 = 35 := ⟨by decide +kernel, rfl⟩
theorem dX7_likely_35 : decode cX7_likely 35 = .ok (.getfield 10, 3) ∧ 35 + 3 = 38 := ⟨by decide +kernel, rfl⟩
theorem dX7_likely_38 : decode cX7_likely 38 = .ok (.iload_n 1, 1) ∧ 38 + 1 = 39 := ⟨by decide +kernel, rfl⟩
theorem dX7_likely_39 : decode cX7_likely 39 = .ok (.aload_n 0, 1) ∧ 39 + 1 = 40 := ⟨by decide +kernel, rfl⟩
theorem dX7_likely_40 : decode cX7_likely 40 = .ok (.getfield 58, 3) ∧ 40 + 3 = 43 := ⟨by decide +kernel, rfl⟩
theorem dX7_likely_43 : decode cX7_likely 43 = .ok (.invokevirtual 214, 3) := by decide +kernel
theorem dX7_likely_46 : decode cX7_likely 46 = .ok (.aload_n 0, 1) ∧ 46 + 1 = 47 := ⟨by decide +kernel, rfl⟩
theorem dX7_likely_47 : decode cX7_likely 47 = .ok (.iload_n 2, 1) ∧ 47 + 1 = 48 := ⟨by decide +kernel, rfl⟩
theorem dX7_likely_48 : decode cX7_likely 48 = .ok (.iconst 1, 1) ∧ 48 + 1 = 49 := ⟨by decide +kernel, rfl⟩
theorem dX7_likely_49 : decode cX7_likely 49 = .ok (.iload_n 3, 1) ∧ 49 + 1 = 50 := ⟨by decide +kernel, rfl⟩
theorem dX7_likely_50 : decode cX7_likely 50 = .ok (.ishl, 1) ∧ 50 + 1 = 51 := ⟨by decide +kernel, rfl⟩
theorem dX7_likely_51 : decode cX7_likely 51 = .ok (.invokevirtual 240, 3) := by decide +kernel
theorem dX7_likely_54 : decode cX7_likely 54 = .ok (.aload_n 0, 1) ∧ 54 + 1 = 55 := ⟨by decide +kernel, rfl⟩
theorem dX7_likely_55 : decode cX7_likely 55 = .ok (.iload_n 2, 1) ∧ 55 + 1 = 56 := ⟨by decide +kernel, rfl⟩
theorem dX7_likely_56 : decode cX7_likely 56 = .ok (.iconst 0, 1) ∧ 56 + 1 = 57 := ⟨by decide +kernel, rfl⟩
theorem dX7_likely_57 : decode cX7_likely 57 = .ok (.invokevirtual 240, 3) := by decide +kernel
theorem dX7_likely_60 : decode cX7_likely 60 = .ok (.iload 4, 2) ∧ 60 + 2 = 62 := ⟨by decide +kernel, rfl⟩
theorem dX7_likely_62 : decode cX7_likely 62 = .ok (.invokestatic 248, 3) := by decide +kernel
theorem dX7_likely_65 : decode cX7_likely 65 = .ok (.lreturn, 1) := by decide +kernel
def B_X7_likely_30 (fu : Nat) (o : Nat) (S : Hp) : Option (Int64 × Hp) :=
  some ((-4611686018427387904 : Int64), S)
set_option maxRecDepth 100000 in
set_option maxHeartbeats 4000000 in
theorem w_X7_likely_30 {E : Cx} {l : Launch} {res : Int64 × Hp} {ad : Nat → Nat} {fu : Nat} {o : Nat} {S : Hp} (K : Kx E cX7_likely RX7 (rmd 5 0 0)) (X : Bx E l yX7_likely 5 (some .long) 0 0 ad (QL res)) (h : B_X7_likely_30 fu o S = some res) : J E 0 0 30 [] [] S ad := by
  refine j_ldc2 K dX7_likely_30 z659 ?_
  exact j_lret K X dX7_likely_33 h
def F_X7_likely (fu : Nat) (S : Hp) (o : Nat) (x1 : Int32) (x2 : Int32) (x3 : Int32) (x4 : Int32) : Option (Int64 × Hp) :=
  (gR S (some o) 5 0).bind fun v1 =>
  (ob S 0 v1).bind fun o5 =>
  b2 (F_X0_hasPerson S o5 x1) fun v5 S5 =>
  if v5 = 0 then
    B_X7_likely_30 fu o S5
  else
    (gR S5 (some o) 5 0).bind fun v12 =>
    (ob S5 0 v12).bind fun o16 =>
    b2 (F_X0_hasWrong S5 o16 x3) fun v16 S16 =>
    if v16 = 0 then
      B_X7_likely_30 fu o S16
    else
      b2 (F_X7_isZeroOrOne S16 x4) fun v24 S24 =>
      if v24 = 0 then
        B_X7_likely_30 fu o S24
      else
        (gR S24 (some o) 5 0).bind fun v35 =>
        (gR S24 (some o) 5 9).bind fun v40 =>
        (ob S24 0 v35).bind fun o43 =>
        (F_X0_fillStrokes fu S24 o43 x1 v40).bind fun S43 =>
        (ob S43 5 (some o)).bind fun _ =>
        b2 (F_X7_setsByBeats fu S43 o x2 ((1 : Int32) <<< (x3 &&& 31))) fun v51 S51 =>
        (ob S51 5 (some o)).bind fun _ =>
        b2 (F_X7_setsByBeats fu S51 o x2 (0 : Int32)) fun v57 S57 =>
        b2 (F_X7_inLowestTerms fu S57 v51 v57 x4) fun v62 S62 =>
        some (v62, S62)
set_option maxRecDepth 100000 in
set_option maxHeartbeats 4000000 in
theorem w_X7_likely {E : Cx} {l : Launch} {res : Int64 × Hp} {ad : Nat → Nat} {fu : Nat} {S : Hp} {o : Nat} {x1 : Int32} {x2 : Int32} {x3 : Int32} {x4 : Int32} (K : Kx E cX7_likely RX7 (rmd 5 0 0)) (X : Bx E l yX7_likely 5 (some .long) 0 0 ad (QL res)) (h : F_X7_likely fu S o x1 x2 x3 x4 = some res) : J E 0 0 0 [(0, vR (some o)), (1, vI x1), (2, vI x2), (3, vI x3), (4, vI x4)] [] S ad := by
  refine j_aload_n K dX7_likely_0 rfl 0 rfl ?_
  obtain ⟨v1, e1, h⟩ := bd h
  refine fgX7_10 K dX7_likely_1 e1 ?_
  refine j_iload_n K dX7_likely_4 rfl 1 rfl ?_
  obtain ⟨o5, ew5, hz5⟩ := bd h
  obtain ⟨er5, ho5⟩ := ob_some ew5
  subst er5
  have h := hz5
  obtain ⟨v5, S5, e5, h⟩ := bd2 h
  refine j_cI (st := []) K (r_V (vs := [vI x1]) (n := 1) (o := o5) K (c_X0_hasPerson e5) ho5 (by decide) rfl dX7_likely_5 z461 z462 z463 z2 z464 ⟨zd_X0_hasPerson, rfl, rfl, rfl, ⟨Nat.le_of_ble_eq_true rfl, Nat.le_of_ble_eq_true rfl⟩, Nat.le_of_ble_eq_true rfl, Nat.le_of_ble_eq_true rfl, Nat.le_of_ble_eq_true rfl⟩) rfl ?_
  refine j_if_eq K dX7_likely_8 (fun c8 => ?_) (fun c8 => ?_)
  · replace h := it c8 h
    exact j_sub [] rfl (w_X7_likely_30 K X h)
  · replace h := ie c8 h
    refine j_aload_n K dX7_likely_11 rfl 0 rfl ?_
    obtain ⟨v12, e12, h⟩ := bd h
    refine fgX7_10 K dX7_likely_12 e12 ?_
    refine j_iload_n K dX7_likely_15 rfl 3 rfl ?_
    obtain ⟨o16, ew16, hz16⟩ := bd h
    obtain ⟨er16, ho16⟩ := ob_some ew16
    subst er16
    have h := hz16
    obtain ⟨v16, S16, e16, h⟩ := bd2 h
    refine j_cI (st := []) K (r_V (vs := [vI x3]) (n := 1) (o := o16) K (c_X0_hasWrong e16) ho16 (by decide) rfl dX7_likely_16 z420 z421 z422 z2 z423 ⟨zd_X0_hasWrong, rfl, rfl, rfl, ⟨Nat.le_of_ble_eq_true rfl, Nat.le_of_ble_eq_true rfl⟩, Nat.le_of_ble_eq_true rfl, Nat.le_of_ble_eq_true rfl, Nat.le_of_ble_eq_true rfl⟩) rfl ?_
    refine j_if_eq K dX7_likely_19 (fun c19 => ?_) (fun c19 => ?_)
    · replace h := it c19 h
      exact j_sub [] rfl (w_X7_likely_30 K X h)
    · replace h := ie c19 h
      refine j_iload K dX7_likely_22 4 rfl ?_
      obtain ⟨v24, S24, e24, h⟩ := bd2 h
      refine j_cI (st := []) K (r_S (vs := [vI x4]) (n := 1) K (c_X7_isZeroOrOne e24) dX7_likely_24 z497 z498 z1 z499 ⟨zd_X7_isZeroOrOne, rfl, rfl, rfl, ⟨Nat.le_of_ble_eq_true rfl, Nat.le_of_ble_eq_true rfl⟩, Nat.le_of_ble_eq_true rfl, Nat.le_of_ble_eq_true rfl, Nat.le_of_ble_eq_true rfl⟩) rfl ?_
      refine j_if_ne K dX7_likely_27 (fun c27 => ?_) (fun c27 => ?_)
      · replace h := ie c27 h
        refine j_aload_n K dX7_likely_34 rfl 0 rfl ?_
        obtain ⟨v35, e35, h⟩ := bd h
        refine fgX7_10 K dX7_likely_35 e35 ?_
        refine j_iload_n K dX7_likely_38 rfl 1 rfl ?_
        refine j_aload_n K dX7_likely_39 rfl 0 rfl ?_
        obtain ⟨v40, e40, h⟩ := bd h
        refine fgX7_58 K dX7_likely_40 e40 ?_
        obtain ⟨o43, ew43, hz43⟩ := bd h
        obtain ⟨er43, ho43⟩ := ob_some ew43
        subst er43
        have h := hz43
        obtain ⟨S43, e43, h⟩ := bd h
        refine j_cV (st := []) K (r_V (vs := [vI x1, vR v40]) (n := 2) (o := o43) K (c_X0_fillStrokes e43) ho43 (by decide) rfl dX7_likely_43 z585 z586 z587 z2 z588 ⟨zd_X0_fillStrokes, rfl, rfl, rfl, ⟨Nat.le_of_ble_eq_true rfl, Nat.le_of_ble_eq_true rfl⟩, Nat.le_of_ble_eq_true rfl, Nat.le_of_ble_eq_true rfl, Nat.le_of_ble_eq_true rfl⟩) rfl ?_
        refine j_aload_n K dX7_likely_46 rfl 0 rfl ?_
        refine j_iload_n K dX7_likely_47 rfl 2 rfl ?_
        refine j_iconst (v := (1 : Int32)) K dX7_likely_48 (by decide) ?_
        refine j_iload_n K dX7_likely_49 rfl 3 rfl ?_
        refine j_ishl K dX7_likely_50 ?_
        obtain ⟨w51, ew51, h⟩ := bd h
        have ho51 := obS ew51
        obtain ⟨v51, S51, e51, h⟩ := bd2 h
        refine j_cI (st := []) K (r_V (vs := [vI x2, vI ((1 : Int32) <<< (x3 &&& 31))]) (n := 2) (o := o) K (c_X7_setsByBeats e51) ho51 (by decide) rfl dX7_likely_51 z647 z649 zs19 z1 z650 ⟨zd_X7_setsByBeats, rfl, rfl, rfl, ⟨Nat.le_of_ble_eq_true rfl, Nat.le_of_ble_eq_true rfl⟩, Nat.le_of_ble_eq_true rfl, Nat.le_of_ble_eq_true rfl, Nat.le_of_ble_eq_true rfl⟩) rfl ?_
        refine j_aload_n K dX7_likely_54 rfl 0 rfl ?_
        refine j_iload_n K dX7_likely_55 rfl 2 rfl ?_
        refine j_iconst (v := (0 : Int32)) K dX7_likely_56 (by decide) ?_
        obtain ⟨w57, ew57, h⟩ := bd h
        have ho57 := obS ew57
        obtain ⟨v57, S57, e57, h⟩ := bd2 h
        refine j_cI (st := [vI v51]) K (r_V (vs := [vI x2, vI (0 : Int32)]) (n := 2) (o := o) K (c_X7_setsByBeats e57) ho57 (by decide) rfl dX7_likely_57 z647 z649 zs19 z1 z650 ⟨zd_X7_setsByBeats, rfl, rfl, rfl, ⟨Nat.le_of_ble_eq_true rfl, Nat.le_of_ble_eq_true rfl⟩, Nat.le_of_ble_eq_true rfl, Nat.le_of_ble_eq_true rfl, Nat.le_of_ble_eq_true rfl⟩) rfl ?_
        refine j_iload K dX7_likely_60 4 rfl ?_
        obtain ⟨v62, S62, e62, h⟩ := bd2 h
        refine j_cL (st := []) K (r_S (vs := [vI v51, vI v57, vI x4]) (n := 3) K (c_X7_inLowestTerms e62) dX7_likely_62 z660 z661 z1 z662 ⟨zd_X7_inLowestTerms, rfl, rfl, rfl, ⟨Nat.le_of_ble_eq_true rfl, Nat.le_of_ble_eq_true rfl⟩, Nat.le_of_ble_eq_true rfl, Nat.le_of_ble_eq_true rfl, Nat.le_of_ble_eq_true rfl⟩) rfl ?_
        exact j_lret K X dX7_likely_65 h
      · replace h := it c27 h
        exact j_sub [] rfl (w_X7_likely_30 K X h)
theorem c_X7_likely {l : Launch} {fu : Nat} {S : Hp} {o : Nat} {x1 : Int32} {x2 : Int32} {x3 : Int32} {x4 : Int32} {res : Int64 × Hp} (h : F_X7_likely fu S o x1 x2 x3 x4 = some res) : Ct l yX7_likely cX7_likely 5 (some .long) (rmd 5 0 0) 0 0 [vR (some o), vI x1, vI x2, vI x3, vI x4] S (QL res) :=
  z_entry (by decide +kernel) (Nat.le_of_ble_eq_true rfl) (fun E ad K X => w_X7_likely K X h)

theorem dX7_share_0 : decode cX7_share 0 = .ok (.aload_n 0, 1) ∧ 0 + 1 = 1 := ⟨by decide +kernel, rfl⟩
theorem dX7_share_1 : decode cX7_share 1 = .ok (.getfield 10, 3) ∧ 1 + 3 = 4 := ⟨by decide +kernel, rfl⟩
theorem dX7_share_4 : decode cX7_share 4 = .ok (.iload_n 1, 1) ∧ 4 + 1 = 5 := ⟨by decide +kernel, rfl⟩
theorem dX7_share_5 : decode cX7_share 5 = .ok (.invokevirtual 143, 3) := by decide +kernel
theorem dX7_share_8 : decode cX7_share 8 = .ok (.ifCond .eq 10, 3) ∧ 8 + 3 = 11 ∧ ((8 : Nat) : Int) + (10) = ((18 : Nat) : Int) := ⟨by decide +kernel, rfl, by decide⟩
theorem dX7_share_11 : decode cX7_share 11 = .ok (.iload_n 2, 1) ∧ 11 + 1 = 12 := ⟨by decide +kernel, rfl⟩
theorem dX7_share_12 : decode cX7_share 12 = .ok (.invokestatic 155, 3) := by decide +kernel
theorem dX7_share_15 : decode cX7_share 15 = .ok (.ifCond .ne 7, 3) ∧ 15 + 3 = 18 ∧ ((15 : Nat) : Int) + (7) = ((22 : Nat) : Int) := ⟨by decide +kernel, rfl, by decide⟩
theorem dX7_share_18 : decode cX7_share 18 = .ok (.ldc2_w 246, 3) ∧ 18 + 3 = 21 := ⟨by decide +kernel, rfl⟩
theorem dX7_share_21 : decode cX7_share 21 = .ok (.lreturn, 1) := by decide +kernel
theorem dX7_share_22 : decode cX7_share 22 = .ok (.aload_n 0, 1) ∧ 22 + 1 = 23 := ⟨by decide +kernel, rfl⟩
theorem dX7_share_23 : decode cX7_share 23 = .ok (.getfield 10, 3) ∧ 23 + 3 = 26 := ⟨by decide +kernel, rfl⟩
theorem dX7_share_26 : decode cX7_share 26 = .ok (.iload_n 1, 1) ∧ 26 + 1 = 27 := ⟨by decide +kernel, rfl⟩
theorem dX7_share_27 : decode cX7_share 27 = .ok (.invokevirtual 183, 3) := by decide +kernel
theorem dX7_share_30 : decode cX7_share 30 = .ok (.aload_n 0, 1) ∧ 30 + 1 = 31 := ⟨by decide +kernel, rfl⟩
theorem dX7_share_31 : decode cX7_share 31 = .ok (.getfield 10, 3) ∧ 31 + 3 = 34 := ⟨by decide +kernel, rfl⟩
theorem dX7_share_34 : decode cX7_share 34 = .ok (.invokevirtual 199, 3) := by decide +kernel
theorem dX7_share_37 : decode cX7_share 37 = .ok (.iload_n 2, 1) ∧ 37 + 1 = 38 := ⟨by decide +kernel, rfl⟩
theorem dX7_share_38 : decode cX7_share 38 = .ok (.invokestatic 248, 3) := by decide +kernel
theorem dX7_share_41 : decode cX7_share 41 = .ok (.lreturn, 1) := by decide +kernel
def B_X7_share_18 (fu : Nat) (o : Nat) (S : Hp) : Option (Int64 × Hp) :=
  some ((-4611686018427387904 : Int64), S)
set_option maxRecDepth 100000 in
set_option maxHeartbeats 4000000 in
theorem w_X7_share_18 {E : Cx} {l : Launch} {res : Int64 × Hp} {ad : Nat → Nat} {fu : Nat} {o : Nat} {S : Hp} (K : Kx E cX7_share RX7 (rmd 6 0 0)) (X : Bx E l yX7_share 3 (some .long) 0 0 ad (QL res)) (h : B_X7_share_18 fu o S = some res) : J E 0 0 18 [] [] S ad := by
  refine j_ldc2 K dX7_share_18 z659 ?_
  exact j_lret K X dX7_share_21 h
def F_X7_share (fu : Nat) (S : Hp) (o : Nat) (x1 : Int32) (x2 : Int32) : Option (Int64 × Hp) :=
  (gR S (some o) 5 0).bind fun v1 =>
  (ob S 0 v1).bind fun o5 =>
  b2 (F_X0_hasPerson S o5 x1) fun v5 S5 =>
  if v5 = 0 then
    B_X7_share_18 fu o S5
  else
    b2 (F_X7_isZeroOrOne S5 x2) fun v12 S12 =>
    if v12 = 0 then
      B_X7_share_18 fu o S12
    else
      (gR S12 (some o) 5 0).bind fun v23 =>
      (ob S12 0 v23).bind fun o27 =>
      b2 (F_X0_beats fu S12 o27 x1) fun v27 S27 =>
      (gR S27 (some o) 5 0).bind fun v31 =>
      (ob S27 0 v31).bind fun o34 =>
      b2 (F_X0_beatsOfAll fu S27 o34) fun v34 S34 =>
      b2 (F_X7_inLowestTerms fu S34 v27 v34 x2) fun v38 S38 =>
      some (v38, S38)
set_option maxRecDepth 100000 in
set_option maxHeartbeats 4000000 in
theorem w_X7_share {E : Cx} {l : Launch} {res : Int64 × Hp} {ad : Nat → Nat} {fu : Nat} {S : Hp} {o : Nat} {x1 : Int32} {x2 : Int32} (K : Kx E cX7_share RX7 (rmd 6 0 0)) (X : Bx E l yX7_share 3 (some .long) 0 0 ad (QL res)) (h : F_X7_share fu S o x1 x2 = some res) : J E 0 0 0 [(0, vR (some o)), (1, vI x1), (2, vI x2)] [] S ad := by
  refine j_aload_n K dX7_share_0 rfl 0 rfl ?_
  obtain ⟨v1, e1, h⟩ := bd h
  refine fgX7_10 K dX7_share_1 e1 ?_
  refine j_iload_n K dX7_share_4 rfl 1 rfl ?_
  obtain ⟨o5, ew5, hz5⟩ := bd h
  obtain ⟨er5, ho5⟩ := ob_some ew5
  subst er5
  have h := hz5
  obtain ⟨v5, S5, e5, h⟩ := bd2 h
  refine j_cI (st := []) K (r_V (vs := [vI x1]) (n := 1) (o := o5) K (c_X0_hasPerson e5) ho5 (by decide) rfl dX7_share_5 z461 z462 z463 z2 z464 ⟨zd_X0_hasPerson, rfl, rfl, rfl, ⟨Nat.le_of_ble_eq_true rfl, Nat.le_of_ble_eq_true rfl⟩, Nat.le_of_ble_eq_true rfl, Nat.le_of_ble_eq_true rfl, Nat.le_of_ble_eq_true rfl⟩) rfl ?_
  refine j_if_eq K dX7_share_8 (fun c8 => ?_) (fun c8 => ?_)
  · replace h := it c8 h
    exact j_sub [] rfl (w_X7_share_18 K X h)
  · replace h := ie c8 h
    refine j_iload_n K dX7_share_11 rfl 2 rfl ?_
    obtain ⟨v12, S12, e12, h⟩ := bd2 h
    refine j_cI (st := []) K (r_S (vs := [vI x2]) (n := 1) K (c_X7_isZeroOrOne e12) dX7_share_12 z497 z498 z1 z499 ⟨zd_X7_isZeroOrOne, rfl, rfl, rfl, ⟨Nat.le_of_ble_eq_true rfl, Nat.le_of_ble_eq_true rfl⟩, Nat.le_of_ble_eq_true rfl, Nat.le_of_ble_eq_true rfl, Nat.le_of_ble_eq_true rfl⟩) rfl ?_
    refine j_if_ne K dX7_share_15 (fun c15 => ?_) (fun c15 => ?_)
    · replace h := ie c15 h
      refine j_aload_n K dX7_share_22 rfl 0 rfl ?_
      obtain ⟨v23, e23, h⟩ := bd h
      refine fgX7_10 K dX7_share_23 e23 ?_
      refine j_iload_n K dX7_share_26 rfl 1 rfl ?_
      obtain ⟨o27, ew27, hz27⟩ := bd h
      obtain ⟨er27, ho27⟩ := ob_some ew27
      subst er27
      have h := hz27
      obtain ⟨v27, S27, e27, h⟩ := bd2 h
      refine j_cI (st := []) K (r_V (vs := [vI x1]) (n := 1) (o := o27) K (c_X0_beats e27) ho27 (by decide) rfl dX7_share_27 z517 z518 z519 z2 z520 ⟨zd_X0_beats, rfl, rfl, rfl, ⟨Nat.le_of_ble_eq_true rfl, Nat.le_of_ble_eq_true rfl⟩, Nat.le_of_ble_eq_true rfl, Nat.le_of_ble_eq_true rfl, Nat.le_of_ble_eq_true rfl⟩) rfl ?_
      refine j_aload_n K dX7_share_30 rfl 0 rfl ?_
      obtain ⟨v31, e31, h⟩ := bd h
      refine fgX7_10 K dX7_share_31 e31 ?_
      obtain ⟨o34, ew34, hz34⟩ := bd h
      obtain ⟨er34, ho34⟩ := ob_some ew34
      subst er34
      have h := hz34
      obtain ⟨v34, S34, e34, h⟩ := bd2 h
      refine j_cI (st := [vI v27]) K (r_V (vs := []) (n := 0) (o := o34) K (c_X0_beatsOfAll e34) ho34 (by decide) rfl dX7_share_34 z553 z554 z555 z2 z556 ⟨zd_X0_beatsOfAll, rfl, rfl, rfl, ⟨Nat.le_of_ble_eq_true rfl, Nat.le_of_ble_eq_true rfl⟩, Nat.le_of_ble_eq_true rfl, Nat.le_of_ble_eq_true rfl, Nat.le_of_ble_eq_true rfl⟩) rfl ?_
      refine j_iload_n K dX7_share_37 rfl 2 rfl ?_
      obtain ⟨v38, S38, e38, h⟩ := bd2 h
      refine j_cL (st := []) K (r_S (vs := [vI v27, vI v34, vI x2]) (n := 3) K (c_X7_inLowestTerms e38) dX7_share_38 z660 z661 z1 z662 ⟨zd_X7_inLowestTerms, rfl, rfl, rfl, ⟨Nat.le_of_ble_eq_true rfl, Nat.le_of_ble_eq_true rfl⟩, Nat.le_of_ble_eq_true rfl, Nat.le_of_ble_eq_true rfl, Nat.le_of_ble_eq_true rfl⟩) rfl ?_
      exact j_lret K X dX7_share_41 h
    · replace h := it c15 h
      exact j_sub [] rfl (w_X7_share_18 K X h)
theorem c_X7_share {l : Launch} {fu : Nat} {S : Hp} {o : Nat} {x1 : Int32} {x2 : Int32} {res : Int64 × Hp} (h : F_X7_share fu S o x1 x2 = some res) : Ct l yX7_share cX7_share 3 (some .long) (rmd 6 0 0) 0 0 [vR (some o), vI x1, vI x2] S (QL res) :=
  z_entry (by decide +kernel) (Nat.le_of_ble_eq_true rfl) (fun E ad K X => w_X7_share K X h)

theorem dX7_sheetAt_0 : decode cX7_sheetAt 0 = .ok (.iload_n 1, 1) ∧ 0 + 1 = 1 := ⟨by decide +kernel, rfl⟩
theorem dX7_sheetAt_1 : decode cX7_sheetAt 1 = .ok (.ifCond .lt 21, 3) ∧ 1 + 3 = 4 ∧ ((1 : Nat) : Int) + (21) = ((22 : Nat) : Int) := ⟨by decide +kernel, rfl, by decide⟩
theorem dX7_sheetAt_4 : decode cX7_sheetAt 4 = .ok (.iload_n 1, 1) ∧ 4 + 1 = 5 := ⟨by decide +kernel, rfl⟩
theorem dX7_sheetAt_5 : decode cX7_sheetAt 5 = .ok (.aload_n 0, 1) ∧ 5 + 1 = 6 := ⟨by decide +kernel, rfl⟩
theorem dX7_sheetAt_6 : decode cX7_sheetAt 6 = .ok (.getfield 54, 3) ∧ 6 + 3 = 9 := ⟨by decide +kernel, rfl⟩
theorem dX7_sheetAt_9 : decode cX7_sheetAt 9 = .ok (.arraylength, 1) ∧ 9 + 1 = 10 := ⟨by decide +kernel, rfl⟩
theorem dX7_sheetAt_10 : decode cX7_sheetAt 10 = .ok (.if_icmp .ge 12, 3) ∧ 10 + 3 = 13 ∧ ((10 : Nat) : Int) + (12) = ((22 : Nat) : Int) := ⟨by decide +kernel, rfl, by decide⟩
theorem dX7_sheetAt_13 : decode cX7_sheetAt 13 = .ok (.aload_n 0, 1) ∧ 13 + 1 = 14 := ⟨by decide +kernel, rfl⟩
theorem dX7_sheetAt_14 : decode cX7_sheetAt 14 = .ok (.getfield 54, 3) ∧ 14 + 3 = 17 := ⟨by decide +kernel, rfl⟩
theorem dX7_sheetAt_17 : decode cX7_sheetAt 17 = .ok (.iload_n 1, 1) ∧ 17 + 1 = 18 := ⟨by decide +kernel, rfl⟩
theorem dX7_sheetAt_18 : decode cX7_sheetAt 18 = .ok (.aaload, 1) ∧ 18 + 1 = 19 := ⟨by decide +kernel, rfl⟩
theorem dX7_sheetAt_19 : decode cX7_sheetAt 19 = .ok (.goto 4, 3) ∧ ((19 : Nat) : Int) + (4) = ((23 : Nat) : Int) := ⟨by decide +kernel, by decide⟩
theorem dX7_sheetAt_22 : decode cX7_sheetAt 22 = .ok (.aconst_null, 1) ∧ 22 + 1 = 23 := ⟨by decide +kernel, rfl⟩
theorem dX7_sheetAt_23 : decode cX7_sheetAt 23 = .ok (.areturn, 1) := by decide +kernel
def B_X7_sheetAt_23 (o : Nat) (S : Hp) (s0 : Option Nat) : Option (Option Nat × Hp) :=
  some (s0, S)
set_option maxRecDepth 100000 in
set_option maxHeartbeats 4000000 in
theorem w_X7_sheetAt_23 {E : Cx} {l : Launch} {res : Option Nat × Hp} {ad : Nat → Nat} {o : Nat} {S : Hp} {s0 : Option Nat} (K : Kx E cX7_sheetAt RX7 (rmd 0 0 0)) (X : Bx E l yX7_sheetAt 2 (some (.object "DrumOfGuilt$Sheet")) 0 0 ad (QR res)) (h : B_X7_sheetAt_23 o S s0 = some res) : J E 0 0 23 [] [vR s0] S ad := by
  exact j_rret K X dX7_sheetAt_23 h
def B_X7_sheetAt_22 (o : Nat) (S : Hp) : Option (Option Nat × Hp) :=
  B_X7_sheetAt_23 o S none
set_option maxRecDepth 100000 in
set_option maxHeartbeats 4000000 in
theorem w_X7_sheetAt_22 {E : Cx} {l : Launch} {res : Option Nat × Hp} {ad : Nat → Nat} {o : Nat} {S : Hp} (K : Kx E cX7_sheetAt RX7 (rmd 0 0 0)) (X : Bx E l yX7_sheetAt 2 (some (.object "DrumOfGuilt$Sheet")) 0 0 ad (QR res)) (h : B_X7_sheetAt_22 o S = some res) : J E 0 0 22 [] [] S ad := by
  refine j_null K dX7_sheetAt_22 ?_
  exact w_X7_sheetAt_23 K X h
def F_X7_sheetAt (S : Hp) (o : Nat) (x1 : Int32) : Option (Option Nat × Hp) :=
  if x1 < 0 then
    B_X7_sheetAt_22 o S
  else
    (gR S (some o) 5 8).bind fun v6 =>
    (aL S v6 9).bind fun v9 =>
    if v9 ≤ x1 then
      B_X7_sheetAt_22 o S
    else
      (gR S (some o) 5 8).bind fun v14 =>
      (rG S v14 9 x1).bind fun v18 =>
      B_X7_sheetAt_23 o S v18
set_option maxRecDepth 100000 in
set_option maxHeartbeats 4000000 in
theorem w_X7_sheetAt {E : Cx} {l : Launch} {res : Option Nat × Hp} {ad : Nat → Nat} {S : Hp} {o : Nat} {x1 : Int32} (K : Kx E cX7_sheetAt RX7 (rmd 0 0 0)) (X : Bx E l yX7_sheetAt 2 (some (.object "DrumOfGuilt$Sheet")) 0 0 ad (QR res)) (h : F_X7_sheetAt S o x1 = some res) : J E 0 0 0 [(0, vR (some o)), (1, vI x1)] [] S ad := by
  refine j_iload_n K dX7_sheetAt_0 rfl 1 rfl ?_
  refine j_if_lt K dX7_sheetAt_1 (fun c1 => ?_) (fun c1 => ?_)
  · replace h := it c1 h
    exact j_sub [] rfl (w_X7_sheetAt_22 K X h)
  · replace h := ie c1 h
    refine j_iload_n K dX7_sheetAt_4 rfl 1 rfl ?_
    refine j_aload_n K dX7_sheetAt_5 rfl 0 rfl ?_
    obtain ⟨v6, e6, h⟩ := bd h
    refine fgX7_54 K dX7_sheetAt_6 e6 ?_
    obtain ⟨v9, e9, h⟩ := bd h
    refine j_aL K (by decide) dX7_sheetAt_9 e9 ?_
    refine j_icmp_ge K dX7_sheetAt_10 (fun c10 => ?_) (fun c10 => ?_)
    · replace h := it c10 h
      exact j_sub [] rfl (w_X7_sheetAt_22 K X h)
    · replace h := ie c10 h
      refine j_aload_n K dX7_sheetAt_13 rfl 0 rfl ?_
      obtain ⟨v14, e14, h⟩ := bd h
      refine fgX7_54 K dX7_sheetAt_14 e14 ?_
      refine j_iload_n K dX7_sheetAt_17 rfl 1 rfl ?_
      obtain ⟨v18, e18, h⟩ := bd h
      refine j_rG K (by decide) dX7_sheetAt_18 e18 ?_
      refine j_goto K dX7_sheetAt_19 ?_
      exact j_sub [] rfl (w_X7_sheetAt_23 K X h)
theorem c_X7_sheetAt {l : Launch} {S : Hp} {o : Nat} {x1 : Int32} {res : Option Nat × Hp} (h : F_X7_sheetAt S o x1 = some res) : Ct l yX7_sheetAt cX7_sheetAt 2 (some (.object "DrumOfGuilt$Sheet")) (rmd 0 0 0) 0 0 [vR (some o), vI x1] S (QR res) :=
  z_entry (by decide +kernel) (Nat.le_of_ble_eq_true rfl) (fun E ad K X => w_X7_sheetAt K X h)

theorem dX7_refusalToJudge_0 : decode cX7_refusalToJudge 0 = .ok (.aload_n 1, 1) ∧ 0 + 1 = 1 := ⟨by decide +kernel, rfl⟩
theorem dX7_refusalToJudge_1 : decode cX7_refusalToJudge 1 = .ok (.ifnonnull 6, 3) ∧ 1 + 3 = 4 ∧ ((1 : Nat) : Int) + (6) = ((7 : Nat) : Int) := ⟨by decide +kernel, rfl, by decide⟩
theorem dX7_refusalToJudge_4 : decode cX7_refusalToJudge 4 = .ok (.bipush (-2), 2) ∧ 4 + 2 = 6 := ⟨by decide +kernel, rfl⟩
theorem dX7_refusalToJudge_6 : decode cX7_refusalToJudge 6 = .ok (.ireturn, 1) := by decide +kernel
theorem dX7_refusalToJudge_7 : decode cX7_refusalToJudge 7 = .ok (.aload_n 1, 1) ∧ 7 + 1 = 8 := ⟨by decide +kernel, rfl⟩
theorem dX7_refusalToJudge_8 : decode cX7_refusalToJudge 8 = .ok (.invokevirtual 284, 3) := by decide +kernel
theorem dX7_refusalToJudge_11 : decode cX7_refusalToJudge 11 = .ok (.ifCond .eq 6, 3) ∧ 11 + 3 = 14 ∧ ((11 : Nat) : Int) + (6) = ((17 : Nat) : Int) := ⟨by decide +kernel, rfl, by decide⟩
theorem dX7_refusalToJudge_14 : decode cX7_refusalToJudge 14 = .ok (.bipush (-11), 2) ∧ 14 + 2 = 16 := ⟨by decide +kernel, rfl⟩
theorem dX7_refusalToJudge_16 : decode cX7_refusalToJudge 16 = .ok (.ireturn, 1) := by decide +kernel
theorem dX7_refusalToJudge_17 : decode cX7_refusalToJudge 17 = .ok (.aload_n 1, 1) ∧ 17 + 1 = 18 := ⟨by decide +kernel, rfl⟩
theorem dX7_refusalToJudge_18 : decode cX7_refusalToJudge 18 = .ok (.getfield 322, 3) ∧ 18 + 3 = 21 := ⟨by decide +kernel, rfl⟩
theorem dX7_refusalToJudge_21 : decode cX7_refusalToJudge 21 = .ok (.aload_n 0, 1) ∧ 21 + 1 = 22 := ⟨by decide +kernel, rfl⟩
theorem dX7_refusalToJudge_22 : decode cX7_refusalToJudge 22 = .ok (.getfield 10, 3) ∧ 22 + 3 = 25 := ⟨by decide +kernel, rfl⟩
theorem dX7_refusalToJudge_25 : decode cX7_refusalToJudge 25 = .ok (.getfield 90, 3) ∧ 25 + 3 = 28 := ⟨by decide +kernel, rfl⟩
theorem dX7_refusalToJudge_28 : decode cX7_refusalToJudge 28 = .ok (.if_icmp .le 8, 3) ∧ 28 + 3 = 31 ∧ ((28 : Nat) : Int) + (8) = ((36 : Nat) : Int) := ⟨by decide +kernel, rfl, by decide⟩
theorem dX7_refusalToJudge_31 : decode cX7_refusalToJudge 31 = .ok (.bipush (-2), 2) ∧ 31 + 2 = 33 := ⟨by decide +kernel, rfl⟩
theorem dX7_refusalToJudge_33 : decode cX7_refusalToJudge 33 = .ok (.goto 4, 3) ∧ ((33 : Nat) : Int) + (4) = ((37 : Nat) : Int) := ⟨by decide +kernel, by decide⟩
theorem dX7_refusalToJudge_36 : decode cX7_refusalToJudge 36 = .ok (.iconst 0, 1) ∧ 36 + 1 = 37 := ⟨by decide +kernel, rfl⟩
theorem dX7_refusalToJudge_37 : decode cX7_refusalToJudge 37 = .ok (.ireturn, 1) := by decide +kernel
def B_X7_refusalToJudge_37 (o : Nat) (S : Hp) (s0 : Int32) : Option (Int32 × Hp) :=
  some (s0, S)
set_option maxRecDepth 100000 in
set_option maxHeartbeats 4000000 in
theorem w_X7_refusalToJudge_37 {E : Cx} {l : Launch} {res : Int32 × Hp} {ad : Nat → Nat} {o : Nat} {S : Hp} {s0 : Int32} (K : Kx E cX7_refusalToJudge RX7 (rmd 1 0 0)) (X : Bx E l yX7_refusalToJudge 2 (some .int) 0 0 ad (QI res)) (h : B_X7_refusalToJudge_37 o S s0 = some res) : J E 0 0 37 [] [vI s0] S ad := by
  exact j_iret K X dX7_refusalToJudge_37 h
def F_X7_refusalToJudge (S : Hp) (o : Nat) (x1 : Option Nat) : Option (Int32 × Hp) :=
  if x1 = none then
    some ((-2 : Int32), S)
  else
    (ob S 3 x1).bind fun o8 =>
    b2 (F_X4_isMissing S o8) fun v8 S8 =>
    if v8 = 0 then
      (gI S8 (some o8) 3 1).bind fun v18 =>
      (gR S8 (some o) 5 0).bind fun v22 =>
      (gI S8 v22 0 0).bind fun v25 =>
      if v18 ≤ v25 then
        B_X7_refusalToJudge_37 o S8 (0 : Int32)
      else
        B_X7_refusalToJudge_37 o S8 (-2 : Int32)
    else
      some ((-11 : Int32), S8)
set_option maxRecDepth 100000 in
set_option maxHeartbeats 4000000 in
theorem w_X7_refusalToJudge {E : Cx} {l : Launch} {res : Int32 × Hp} {ad : Nat → Nat} {S : Hp} {o : Nat} {x1 : Option Nat} (K : Kx E cX7_refusalToJudge RX7 (rmd 1 0 0)) (X : Bx E l yX7_refusalToJudge 2 (some .int) 0 0 ad (QI res)) (h : F_X7_refusalToJudge S o x1 = some res) : J E 0 0 0 [(0, vR (some o)), (1, vR x1)] [] S ad := by
  refine j_aload_n K dX7_refusalToJudge_0 rfl 1 rfl ?_
  refine j_ifnonnull K dX7_refusalToJudge_1 (fun c1 => ?_) (fun c1 => ?_)
  · replace h := ie c1 h
    refine j_aload_n K dX7_refusalToJudge_7 rfl 1 rfl ?_
    obtain ⟨o8, ew8, hz8⟩ := bd h
    obtain ⟨er8, ho8⟩ := ob_some ew8
    subst er8
    have h := hz8
    obtain ⟨v8, S8, e8, h⟩ := bd2 h
    refine j_cI (st := []) K (r_V (vs := []) (n := 0) (o := o8) K (c_X4_isMissing e8) ho8 (by decide) rfl dX7_refusalToJudge_8 z682 z683 z684 z5 z685 ⟨zd_X4_isMissing, rfl, rfl, rfl, ⟨Nat.le_of_ble_eq_true rfl, Nat.le_of_ble_eq_true rfl⟩, Nat.le_of_ble_eq_true rfl, Nat.le_of_ble_eq_true rfl, Nat.le_of_ble_eq_true rfl⟩) rfl ?_
    refine j_if_eq K dX7_refusalToJudge_11 (fun c11 => ?_) (fun c11 => ?_)
    · replace h := it c11 h
      refine j_aload_n K dX7_refusalToJudge_17 rfl 1 rfl ?_
      obtain ⟨v18, e18, h⟩ := bd h
      refine fgX7_322 K dX7_refusalToJudge_18 e18 ?_
      refine j_aload_n K dX7_refusalToJudge_21 rfl 0 rfl ?_
      obtain ⟨v22, e22, h⟩ := bd h
      refine fgX7_10 K dX7_refusalToJudge_22 e22 ?_
      obtain ⟨v25, e25, h⟩ := bd h
      refine fgX7_90 K dX7_refusalToJudge_25 e25 ?_
      refine j_icmp_le K dX7_refusalToJudge_28 (fun c28 => ?_) (fun c28 => ?_)
      · replace h := it c28 h
        refine j_iconst (v := (0 : Int32)) K dX7_refusalToJudge_36 (by decide) ?_
        exact j_sub [] rfl (w_X7_refusalToJudge_37 K X h)
      · replace h := ie c28 h
        refine j_bipush (v := (-2 : Int32)) K dX7_refusalToJudge_31 (by decide) ?_
        refine j_goto K dX7_refusalToJudge_33 ?_
        exact j_sub [] rfl (w_X7_refusalToJudge_37 K X h)
    · replace h := ie c11 h
      refine j_bipush (v := (-11 : Int32)) K dX7_refusalToJudge_14 (by decide) ?_
      exact j_iret K X dX7_refusalToJudge_16 h
  · replace h := it c1 h
    refine j_bipush (v := (-2 : Int32)) K dX7_refusalToJudge_4 (by decide) ?_
    exact j_iret K X dX7_refusalToJudge_6 h
theorem c_X7_refusalToJudge {l : Launch} {S : Hp} {o : Nat} {x1 : Option Nat} {res : Int32 × Hp} (h : F_X7_refusalToJudge S o x1 = some res) : Ct l yX7_refusalToJudge cX7_refusalToJudge 2 (some .int) (rmd 1 0 0) 0 0 [vR (some o), vR x1] S (QI res) :=
  z_entry (by decide +kernel) (Nat.le_of_ble_eq_true rfl) (fun E ad K X => w_X7_refusalToJudge K X h)

theorem dX7_judge_0 : decode cX7_judge 0 = .ok (.aload_n 0, 1) ∧ 0 + 1 = 1 := ⟨by decide +kernel, rfl⟩
theorem dX7_judge_1 : decode cX7_judge 1 = .ok (.iload_n 1, 1) ∧ 1 + 1 = 2 := ⟨by decide +kernel, rfl⟩
theorem dX7_judge_2 : decode cX7_judge 2 = .ok (.invokevirtual 252, 3) := by decide +kernel
theorem dX7_judge_5 : decode cX7_judge 5 = .ok (.astore_n 2, 1) ∧ 5 + 1 = 6 := ⟨by decide +kernel, rfl⟩
theorem dX7_judge_6 : decode cX7_judge 6 = .ok (.aload_n 0, 1) ∧ 6 + 1 = 7 := ⟨by decide +kernel, rfl⟩
theorem dX7_judge_7 : decode cX7_judge 7 = .ok (.aload_n 2, 1) ∧ 7 + 1 = 8 := ⟨by decide +kernel, rfl⟩
theorem dX7_judge_8 : decode cX7_judge 8 = .ok (.invokevirtual 256, 3) := by decide +kernel
theorem dX7_judge_11 : decode cX7_judge 11 = .ok (.istore_n 3, 1) ∧ 11 + 1 = 12 := ⟨by decide +kernel, rfl⟩
theorem dX7_judge_12 : decode cX7_judge 12 = .ok (.iload_n 3, 1) ∧ 12 + 1 = 13 := ⟨by decide +kernel, rfl⟩
theorem dX7_judge_13 : decode cX7_judge 13 = .ok (.ifCond .eq 7, 3) ∧ 13 + 3 = 16 ∧ ((13 : Nat) : Int) + (7) = ((20 : Nat) : Int) := ⟨by decide +kernel, rfl, by decide⟩
theorem dX7_judge_16 : decode cX7_judge 16 = .ok (.iload_n 3, 1) ∧ 16 + 1 = 17 := ⟨by decide +kernel, rfl⟩
theorem dX7_judge_17 : decode cX7_judge 17 = .ok (.goto 12, 3) ∧ ((17 : Nat) : Int) + (12) = ((29 : Nat) : Int) := ⟨by decide +kernel, by decide⟩
theorem dX7_judge_20 : decode cX7_judge 20 = .ok (.aload_n 0, 1) ∧ 20 + 1 = 21 := ⟨by decide +kernel, rfl⟩
theorem dX7_judge_21 : decode cX7_judge 21 = .ok (.getfield 10, 3) ∧ 21 + 3 = 24 := ⟨by decide +kernel, rfl⟩
theorem dX7_judge_24 : decode cX7_judge 24 = .ok (.aload_n 2, 1) ∧ 24 + 1 = 25 := ⟨by decide +kernel, rfl⟩
theorem dX7_judge_25 : decode cX7_judge 25 = .ok (.iconst (-1), 1) ∧ 25 + 1 = 26 := ⟨by decide +kernel, rfl⟩
theorem dX7_judge_26 : decode cX7_judge 26 = .ok (.invokevirtual 260, 3) := by decide +kernel
theorem dX7_judge_29 : decode cX7_judge 29 = .ok (.ireturn, 1) := by decide +kernel
def B_X7_judge_29 (fu : Nat) (o : Nat) (S : Hp) (s0 : Int32) : Option (Int32 × Hp) :=
  some (s0, S)
set_option maxRecDepth 100000 in
set_option maxHeartbeats 4000000 in
theorem w_X7_judge_29 {E : Cx} {l : Launch} {res : Int32 × Hp} {ad : Nat → Nat} {fu : Nat} {o : Nat} {S : Hp} {s0 : Int32} (K : Kx E cX7_judge RX7 (rmd 6 0 0)) (X : Bx E l yX7_judge 4 (some .int) 0 0 ad (QI res)) (h : B_X7_judge_29 fu o S s0 = some res) : J E 0 0 29 [] [vI s0] S ad := by
  exact j_iret K X dX7_judge_29 h
def F_X7_judge (fu : Nat) (S : Hp) (o : Nat) (x1 : Int32) : Option (Int32 × Hp) :=
  (ob S 5 (some o)).bind fun _ =>
  b2 (F_X7_sheetAt S o x1) fun v2 S2 =>
  (ob S2 5 (some o)).bind fun _ =>
  b2 (F_X7_refusalToJudge S2 o v2) fun v8 S8 =>
  if v8 = 0 then
    (gR S8 (some o) 5 0).bind fun v21 =>
    (ob S8 0 v21).bind fun o26 =>
    b2 (F_X0_firstOtherwise fu S8 o26 v2 (-1 : Int32)) fun v26 S26 =>
    B_X7_judge_29 fu o S26 v26
  else
    B_X7_judge_29 fu o S8 v8
set_option maxRecDepth 100000 in
set_option maxHeartbeats 4000000 in
theorem w_X7_judge {E : Cx} {l : Launch} {res : Int32 × Hp} {ad : Nat → Nat} {fu : Nat} {S : Hp} {o : Nat} {x1 : Int32} (K : Kx E cX7_judge RX7 (rmd 6 0 0)) (X : Bx E l yX7_judge 4 (some .int) 0 0 ad (QI res)) (h : F_X7_judge fu S o x1 = some res) : J E 0 0 0 [(0, vR (some o)), (1, vI x1)] [] S ad := by
  refine j_aload_n K dX7_judge_0 rfl 0 rfl ?_
  refine j_iload_n K dX7_judge_1 rfl 1 rfl ?_
  obtain ⟨w2, ew2, h⟩ := bd h
  have ho2 := obS ew2
  obtain ⟨v2, S2, e2, h⟩ := bd2 h
  refine j_cR (st := []) K (r_V (vs := [vI x1]) (n := 1) (o := o) K (c_X7_sheetAt e2) ho2 (by decide) rfl dX7_judge_2 z674 z676 zs21 z1 z677 ⟨zd_X7_sheetAt, rfl, rfl, rfl, ⟨Nat.le_of_ble_eq_true rfl, Nat.le_of_ble_eq_true rfl⟩, Nat.le_of_ble_eq_true rfl, Nat.le_of_ble_eq_true rfl, Nat.le_of_ble_eq_true rfl⟩) rfl ?_
  refine j_astore_n (lv' := [(2, vR v2), (0, vR (some o)), (1, vI x1)]) K dX7_judge_5 rfl X.2.2.1 (by decide) rfl ?_
  refine j_aload_n K dX7_judge_6 rfl 1 rfl ?_
  refine j_aload_n K dX7_judge_7 rfl 0 rfl ?_
  obtain ⟨w8, ew8, h⟩ := bd h
  have ho8 := obS ew8
  obtain ⟨v8, S8, e8, h⟩ := bd2 h
  refine j_cI (st := []) K (r_V (vs := [vR v2]) (n := 1) (o := o) K (c_X7_refusalToJudge e8) ho8 (by decide) rfl dX7_judge_8 z678 z680 zs22 z1 z681 ⟨zd_X7_refusalToJudge, rfl, rfl, rfl, ⟨Nat.le_of_ble_eq_true rfl, Nat.le_of_ble_eq_true rfl⟩, Nat.le_of_ble_eq_true rfl, Nat.le_of_ble_eq_true rfl, Nat.le_of_ble_eq_true rfl⟩) rfl ?_
  refine j_istore_n (lv' := [(3, vI v8), (2, vR v2), (0, vR (some o)), (1, vI x1)]) K dX7_judge_11 rfl X.2.2.1 (by decide) rfl ?_
  refine j_iload_n K dX7_judge_12 rfl 0 rfl ?_
  refine j_if_eq K dX7_judge_13 (fun c13 => ?_) (fun c13 => ?_)
  · replace h := it c13 h
    refine j_aload_n K dX7_judge_20 rfl 2 rfl ?_
    obtain ⟨v21, e21, h⟩ := bd h
    refine fgX7_10 K dX7_judge_21 e21 ?_
    refine j_aload_n K dX7_judge_24 rfl 1 rfl ?_
    refine j_iconst (v := (-1 : Int32)) K dX7_judge_25 (by decide) ?_
    obtain ⟨o26, ew26, hz26⟩ := bd h
    obtain ⟨er26, ho26⟩ := ob_some ew26
    subst er26
    have h := hz26
    obtain ⟨v26, S26, e26, h⟩ := bd2 h
    refine j_cI (st := []) K (r_V (vs := [vR v2, vI (-1 : Int32)]) (n := 2) (o := o26) K (c_X0_firstOtherwise e26) ho26 (by decide) rfl dX7_judge_26 z686 z687 z688 z2 z689 ⟨zd_X0_firstOtherwise, rfl, rfl, rfl, ⟨Nat.le_of_ble_eq_true rfl, Nat.le_of_ble_eq_true rfl⟩, Nat.le_of_ble_eq_true rfl, Nat.le_of_ble_eq_true rfl, Nat.le_of_ble_eq_true rfl⟩) rfl ?_
    exact j_sub [] rfl (w_X7_judge_29 K X h)
  · replace h := ie c13 h
    refine j_iload_n K dX7_judge_16 rfl 0 rfl ?_
    refine j_goto K dX7_judge_17 ?_
    exact j_sub [] rfl (w_X7_judge_29 K X h)
theorem c_X7_judge {l : Launch} {fu : Nat} {S : Hp} {o : Nat} {x1 : Int32} {res : Int32 × Hp} (h : F_X7_judge fu S o x1 = some res) : Ct l yX7_judge cX7_judge 4 (some .int) (rmd 6 0 0) 0 0 [vR (some o), vI x1] S (QI res) :=
  z_entry (by decide +kernel) (Nat.le_of_ble_eq_true rfl) (fun E ad K X => w_X7_judge K X h)

theorem dX7_refusalToJudge__0 : decode cX7_refusalToJudge_ 0 = .ok (.aload_n 0, 1) ∧ 0 + 1 = 1 := ⟨by decide +kernel, rfl⟩
theorem dX7_refusalToJudge__1 : decode cX7_refusalToJudge_ 1 = .ok (.aload_n 1, 1) ∧ 1 + 1 = 2 := ⟨by decide +kernel, rfl⟩
theorem dX7_refusalToJudge__2 : decode cX7_refusalToJudge_ 2 = .ok (.invokevirtual 256, 3) := by decide +kernel
theorem dX7_refusalToJudge__5 : decode cX7_refusalToJudge_ 5 = .ok (.istore 4, 2) ∧ 5 + 2 = 7 := ⟨by decide +kernel, rfl⟩
theorem dX7_refusalToJudge__7 : decode cX7_refusalToJudge_ 7 = .ok (.iload 4, 2) ∧ 7 + 2 = 9 := ⟨by decide +kernel, rfl⟩
theorem dX7_refusalToJudge__9 : decode cX7_refusalToJudge_ 9 = .ok (.ifCond .eq 6, 3) ∧ 9 + 3 = 12 ∧ ((9 : Nat) : Int) + (6) = ((15 : Nat) : Int) := ⟨by decide +kernel, rfl, by decide⟩
theorem dX7_refusalToJudge__12 : decode cX7_refusalToJudge_ 12 = .ok (.iload 4, 2) ∧ 12 + 2 = 14 := ⟨by decide +kernel, rfl⟩
theorem dX7_refusalToJudge__14 : decode cX7_refusalToJudge_ 14 = .ok (.ireturn, 1) := by decide +kernel
theorem dX7_refusalToJudge__15 : decode cX7_refusalToJudge_ 15 = .ok (.aload_n 0, 1) ∧ 15 + 1 = 16 := ⟨by decide +kernel, rfl⟩
theorem dX7_refusalToJudge__16 : decode cX7_refusalToJudge_ 16 = .ok (.getfield 10, 3) ∧ 16 + 3 = 19 := ⟨by decide +kernel, rfl⟩
theorem dX7_refusalToJudge__19 : decode cX7_refusalToJudge_ 19 = .ok (.iload_n 2, 1) ∧ 19 + 1 = 20 := ⟨by decide +kernel, rfl⟩
theorem dX7_refusalToJudge__20 : decode cX7_refusalToJudge_ 20 = .ok (.invokevirtual 143, 3) := by decide +kernel
theorem dX7_refusalToJudge__23 : decode cX7_refusalToJudge_ 23 = .ok (.ifCond .ne 6, 3) ∧ 23 + 3 = 26 ∧ ((23 : Nat) : Int) + (6) = ((29 : Nat) : Int) := ⟨by decide +kernel, rfl, by decide⟩
theorem dX7_refusalToJudge__26 : decode cX7_refusalToJudge_ 26 = .ok (.bipush (-5), 2) ∧ 26 + 2 = 28 := ⟨by decide +kernel, rfl⟩
theorem dX7_refusalToJudge__28 : decode cX7_refusalToJudge_ 28 = .ok (.ireturn, 1) := by decide +kernel
theorem dX7_refusalToJudge__29 : decode cX7_refusalToJudge_ 29 = .ok (.iload_n 3, 1) ∧ 29 + 1 = 30 := ⟨by decide +kernel, rfl⟩
theorem dX7_refusalToJudge__30 : decode cX7_refusalToJudge_ 30 = .ok (.invokestatic 155, 3) := by decide +kernel
theorem dX7_refusalToJudge__33 : decode cX7_refusalToJudge_ 33 = .ok (.ifCond .eq 7, 3) ∧ 33 + 3 = 36 ∧ ((33 : Nat) : Int) + (7) = ((40 : Nat) : Int) := ⟨by decide +kernel, rfl, by decide⟩
theorem dX7_refusalToJudge__36 : decode cX7_refusalToJudge_ 36 = .ok (.iconst 0, 1) ∧ 36 + 1 = 37 := ⟨by decide +kernel, rfl⟩
theorem dX7_refusalToJudge__37 : decode cX7_refusalToJudge_ 37 = .ok (.goto 5, 3) ∧ ((37 : Nat) : Int) + (5) = ((42 : Nat) : Int) := ⟨by decide +kernel, by decide⟩
theorem dX7_refusalToJudge__40 : decode cX7_refusalToJudge_ 40 = .ok (.bipush (-7), 2) ∧ 40 + 2 = 42 := ⟨by decide +kernel, rfl⟩
theorem dX7_refusalToJudge__42 : decode cX7_refusalToJudge_ 42 = .ok (.ireturn, 1) := by decide +kernel
def B_X7_refusalToJudge__42 (o : Nat) (S : Hp) (s0 : Int32) : Option (Int32 × Hp) :=
  some (s0, S)
set_option maxRecDepth 100000 in
set_option maxHeartbeats 4000000 in
theorem w_X7_refusalToJudge__42 {E : Cx} {l : Launch} {res : Int32 × Hp} {ad : Nat → Nat} {o : Nat} {S : Hp} {s0 : Int32} (K : Kx E cX7_refusalToJudge_ RX7 (rmd 2 0 0)) (X : Bx E l yX7_refusalToJudge_ 5 (some .int) 0 0 ad (QI res)) (h : B_X7_refusalToJudge__42 o S s0 = some res) : J E 0 0 42 [] [vI s0] S ad := by
  exact j_iret K X dX7_refusalToJudge__42 h
def F_X7_refusalToJudge_ (S : Hp) (o : Nat) (x1 : Option Nat) (x2 : Int32) (x3 : Int32) : Option (Int32 × Hp) :=
  (ob S 5 (some o)).bind fun _ =>
  b2 (F_X7_refusalToJudge S o x1) fun v2 S2 =>
  if v2 = 0 then
    (gR S2 (some o) 5 0).bind fun v16 =>
    (ob S2 0 v16).bind fun o20 =>
    b2 (F_X0_hasPerson S2 o20 x2) fun v20 S20 =>
    if v20 = 0 then
      some ((-5 : Int32), S20)
    else
      b2 (F_X7_isZeroOrOne S20 x3) fun v30 S30 =>
      if v30 = 0 then
        B_X7_refusalToJudge__42 o S30 (-7 : Int32)
      else
        B_X7_refusalToJudge__42 o S30 (0 : Int32)
  else
    some (v2, S2)
set_option maxRecDepth 100000 in
set_option maxHeartbeats 4000000 in
theorem w_X7_refusalToJudge_ {E : Cx} {l : Launch} {res : Int32 × Hp} {ad : Nat → Nat} {S : Hp} {o : Nat} {x1 : Option Nat} {x2 : Int32} {x3 : Int32} (K : Kx E cX7_refusalToJudge_ RX7 (rmd 2 0 0)) (X : Bx E l yX7_refusalToJudge_ 5 (some .int) 0 0 ad (QI res)) (h : F_X7_refusalToJudge_ S o x1 x2 x3 = some res) : J E 0 0 0 [(0, vR (some o)), (1, vR x1), (2, vI x2), (3, vI x3)] [] S ad := by
  refine j_aload_n K dX7_refusalToJudge__0 rfl 0 rfl ?_
  refine j_aload_n K dX7_refusalToJudge__1 rfl 1 rfl ?_
  obtain ⟨w2, ew2, h⟩ := bd h
  have ho2 := obS ew2
  obtain ⟨v2, S2, e2, h⟩ := bd2 h
  refine j_cI (st := []) K (r_V (vs := [vR x1]) (n := 1) (o := o) K (c_X7_refusalToJudge e2) ho2 (by decide) rfl dX7_refusalToJudge__2 z678 z680 zs22 z1 z681 ⟨zd_X7_refusalToJudge, rfl, rfl, rfl, ⟨Nat.le_of_ble_eq_true rfl, Nat.le_of_ble_eq_true rfl⟩, Nat.le_of_ble_eq_true rfl, Nat.le_of_ble_eq_true rfl, Nat.le_of_ble_eq_true rfl⟩) rfl ?_
  refine j_istore (lv' := [(4, vI v2), (0, vR (some o)), (1, vR x1), (2, vI x2), (3, vI x3)]) K dX7_refusalToJudge__5 X.2.2.1 (by decide) rfl ?_
  refine j_iload K dX7_refusalToJudge__7 0 rfl ?_
  refine j_if_eq K dX7_refusalToJudge__9 (fun c9 => ?_) (fun c9 => ?_)
  · replace h := it c9 h
    refine j_aload_n K dX7_refusalToJudge__15 rfl 1 rfl ?_
    obtain ⟨v16, e16, h⟩ := bd h
    refine fgX7_10 K dX7_refusalToJudge__16 e16 ?_
    refine j_iload_n K dX7_refusalToJudge__19 rfl 3 rfl ?_
    obtain ⟨o20, ew20, hz20⟩ := bd h
    obtain ⟨er20, ho20⟩ := ob_some ew20
    subst er20
    have h := hz20
    obtain ⟨v20, S20, e20, h⟩ := bd2 h
    refine j_cI (st := []) K (r_V (vs := [vI x2]) (n := 1) (o := o20) K (c_X0_hasPerson e20) ho20 (by decide) rfl dX7_refusalToJudge__20 z461 z462 z463 z2 z464 ⟨zd_X0_hasPerson, rfl, rfl, rfl, ⟨Nat.le_of_ble_eq_true rfl, Nat.le_of_ble_eq_true rfl⟩, Nat.le_of_ble_eq_true rfl, Nat.le_of_ble_eq_true rfl, Nat.le_of_ble_eq_true rfl⟩) rfl ?_
    refine j_if_ne K dX7_refusalToJudge__23 (fun c23 => ?_) (fun c23 => ?_)
    · replace h := ie c23 h
      refine j_iload_n K dX7_refusalToJudge__29 rfl 4 rfl ?_
      obtain ⟨v30, S30, e30, h⟩ := bd2 h
      refine j_cI (st := []) K (r_S (vs := [vI x3]) (n := 1) K (c_X7_isZeroOrOne e30) dX7_refusalToJudge__30 z497 z498 z1 z499 ⟨zd_X7_isZeroOrOne, rfl, rfl, rfl, ⟨Nat.le_of_ble_eq_true rfl, Nat.le_of_ble_eq_true rfl⟩, Nat.le_of_ble_eq_true rfl, Nat.le_of_ble_eq_true rfl, Nat.le_of_ble_eq_true rfl⟩) rfl ?_
      refine j_if_eq K dX7_refusalToJudge__33 (fun c33 => ?_) (fun c33 => ?_)
      · replace h := it c33 h
        refine j_bipush (v := (-7 : Int32)) K dX7_refusalToJudge__40 (by decide) ?_
        exact j_sub [] rfl (w_X7_refusalToJudge__42 K X h)
      · replace h := ie c33 h
        refine j_iconst (v := (0 : Int32)) K dX7_refusalToJudge__36 (by decide) ?_
        refine j_goto K dX7_refusalToJudge__37 ?_
        exact j_sub [] rfl (w_X7_refusalToJudge__42 K X h)
    · replace h := it c23 h
      refine j_bipush (v := (-5 : Int32)) K dX7_refusalToJudge__26 (by decide) ?_
      exact j_iret K X dX7_refusalToJudge__28 h
  · replace h := ie c9 h
    refine j_iload K dX7_refusalToJudge__12 0 rfl ?_
    exact j_iret K X dX7_refusalToJudge__14 h
theorem c_X7_refusalToJudge_ {l : Launch} {S : Hp} {o : Nat} {x1 : Option Nat} {x2 : Int32} {x3 : Int32} {res : Int32 × Hp} (h : F_X7_refusalToJudge_ S o x1 x2 x3 = some res) : Ct l yX7_refusalToJudge_ cX7_refusalToJudge_ 5 (some .int) (rmd 2 0 0) 0 0 [vR (some o), vR x1, vI x2, vI x3] S (QI res) :=
  z_entry (by decide +kernel) (Nat.le_of_ble_eq_true rfl) (fun E ad K X => w_X7_refusalToJudge_ K X h)
