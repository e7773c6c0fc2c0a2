theorem dX3_read_0 : decode cX3_read 0 = .ok (.aload_n 0, 1) ∧ 0 + 1 = 1 := ⟨by decide +kernel, rfl⟩
theorem dX3_read_1 : decode cX3_read 1 = .ok (.getfield 28, 3) ∧ 1 + 3 = 4 := ⟨by decide +kernel, rfl⟩
theorem dX3_read_4 : decode cX3_read 4 = .ok (.invokevirtual 32, 3) := by decide +kernel
theorem dX3_read_7 : decode cX3_read 7 = .ok (.aload_n 0, 1) ∧ 7 + 1 = 8 := ⟨by decide +kernel, rfl⟩
theorem dX3_read_8 : decode cX3_read 8 = .ok (.iconst (-1), 1) ∧ 8 + 1 = 9 := ⟨by decide +kernel, rfl⟩
theorem dX3_read_9 : decode cX3_read 9 = .ok (.putfield 9, 3) ∧ 9 + 3 = 12 := ⟨by decide +kernel, rfl⟩
theorem dX3_read_12 : decode cX3_read 12 = .ok (.aload_n 0, 1) ∧ 12 + 1 = 13 := ⟨by decide +kernel, rfl⟩
theorem dX3_read_13 : decode cX3_read 13 = .ok (.iconst 0, 1) ∧ 13 + 1 = 14 := ⟨by decide +kernel, rfl⟩
theorem dX3_read_14 : decode cX3_read 14 = .ok (.putfield 15, 3) ∧ 14 + 3 = 17 := ⟨by decide +kernel, rfl⟩
theorem dX3_read_17 : decode cX3_read 17 = .ok (.aload_n 0, 1) ∧ 17 + 1 = 18 := ⟨by decide +kernel, rfl⟩
theorem dX3_read_18 : decode cX3_read 18 = .ok (.iconst 0, 1) ∧ 18 + 1 = 19 := ⟨by decide +kernel, rfl⟩
theorem dX3_read_19 : decode cX3_read 19 = .ok (.putfield 22, 3) ∧ 19 + 3 = 22 := ⟨by decide +kernel, rfl⟩
theorem dX3_read_22 : decode cX3_read 22 = .ok (.aload_n 0, 1) ∧ 22 + 1 = 23 := ⟨by decide +kernel, rfl⟩
theorem dX3_read_23 : decode cX3_read 23 = .ok (.iconst 0, 1) ∧ 23 + 1 = 24 := ⟨by decide +kernel, rfl⟩
theorem dX3_read_24 : decode cX3_read 24 = .ok (.bipush 10, 2) ∧ 24 + 2 = 26 := ⟨by decide +kernel, rfl⟩
theorem dX3_read_26 : decode cX3_read 26 = .ok (.invokevirtual 39, 3) := by decide +kernel
theorem dX3_read_29 : decode cX3_read 29 = .ok (.aload_n 0, 1) ∧ 29 + 1 = 30 := ⟨by decide +kernel, rfl⟩
theorem dX3_read_30 : decode cX3_read 30 = .ok (.iconst 1, 1) ∧ 30 + 1 = 31 := ⟨by decide +kernel, rfl⟩
theorem dX3_read_31 : decode cX3_read 31 = .ok (.bipush 11, 2) ∧ 31 + 2 = 33 := ⟨by decide +kernel, rfl⟩
theorem dX3_read_33 : decode cX3_read 33 = .ok (.invokevirtual 39, 3) := by decide +kernel
theorem dX3_read_36 : decode cX3_read 36 = .ok (.aload_n 0, 1) ∧ 36 + 1 = 37 := ⟨by decide +kernel, rfl⟩
theorem dX3_read_37 : decode cX3_read 37 = .ok (.iconst 2, 1) ∧ 37 + 1 = 38 := ⟨by decide +kernel, rfl⟩
theorem dX3_read_38 : decode cX3_read 38 = .ok (.bipush 12, 2) ∧ 38 + 2 = 40 := ⟨by decide +kernel, rfl⟩
theorem dX3_read_40 : decode cX3_read 40 = .ok (.invokevirtual 39, 3) := by decide +kernel
theorem dX3_read_43 : decode cX3_read 43 = .ok (.aload_n 0, 1) ∧ 43 + 1 = 44 := ⟨by decide +kernel, rfl⟩
theorem dX3_read_44 : decode cX3_read 44 = .ok (.iconst 0, 1) ∧ 44 + 1 = 45 := ⟨by decide +kernel, rfl⟩
theorem dX3_read_45 : decode cX3_read 45 = .ok (.invokevirtual 43, 3) := by decide +kernel
theorem dX3_read_48 : decode cX3_read 48 = .ok (.ifCond .ne 7, 3) ∧ 48 + 3 = 51 ∧ ((48 : Nat) : Int) + (7) = ((55 : Nat) : Int) := ⟨by decide +kernel, rfl, by decide⟩
theorem dX3_read_51 : decode cX3_read 51 = .ok (.aload_n 0, 1) ∧ 51 + 1 = 52 := ⟨by decide +kernel, rfl⟩
theorem dX3_read_52 : decode cX3_read 52 = .ok (.invokevirtual 47, 3) := by decide +kernel
theorem dX3_read_55 : decode cX3_read 55 = .ok (.aload_n 0, 1) ∧ 55 + 1 = 56 := ⟨by decide +kernel, rfl⟩
theorem dX3_read_56 : decode cX3_read 56 = .ok (.getfield 9, 3) ∧ 56 + 3 = 59 := ⟨by decide +kernel, rfl⟩
theorem dX3_read_59 : decode cX3_read 59 = .ok (.iconst (-1), 1) ∧ 59 + 1 = 60 := ⟨by decide +kernel, rfl⟩
theorem dX3_read_60 : decode cX3_read 60 = .ok (.if_icmp .ne 25, 3) ∧ 60 + 3 = 63 ∧ ((60 : Nat) : Int) + (25) = ((85 : Nat) : Int) := ⟨by decide +kernel, rfl, by decide⟩
theorem dX3_read_63 : decode cX3_read 63 = .ok (.new 50, 3) ∧ 63 + 3 = 66 := ⟨by decide +kernel, rfl⟩
theorem dX3_read_66 : decode cX3_read 66 = .ok (.dup, 1) ∧ 66 + 1 = 67 := ⟨by decide +kernel, rfl⟩
theorem dX3_read_67 : decode cX3_read 67 = .ok (.aload_n 0, 1) ∧ 67 + 1 = 68 := ⟨by decide +kernel, rfl⟩
theorem dX3_read_68 : decode cX3_read 68 = .ok (.getfield 18, 3) ∧ 68 + 3 = 71 := ⟨by decide +kernel, rfl⟩
theorem dX3_read_71 : decode cX3_read 71 = .ok (.aload_n 0, 1) ∧ 71 + 1 = 72 := ⟨by decide +kernel, rfl⟩
theorem dX3_read_72 : decode cX3_read 72 = .ok (.getfield 22, 3) ∧ 72 + 3 = 75 := ⟨by decide +kernel, rfl⟩
theorem dX3_read_75 : decode cX3_read 75 = .ok (.aload_n 0, 1) ∧ 75 + 1 = 76 := ⟨by decide +kernel, rfl⟩
theorem dX3_read_76 : decode cX3_read 76 = .ok (.getfield 25, 3) ∧ 76 + 3 = 79 := ⟨by decide +kernel, rfl⟩
theorem dX3_read_79 : decode cX3_read 79 = .ok (.invokespecial 52, 3) := by decide +kernel
theorem dX3_read_82 : decode cX3_read 82 = .ok (.goto 4, 3) ∧ ((82 : Nat) : Int) + (4) = ((86 : Nat) : Int) := ⟨by decide +kernel, by decide⟩
theorem dX3_read_85 : decode cX3_read 85 = .ok (.aconst_null, 1) ∧ 85 + 1 = 86 := ⟨by decide +kernel, rfl⟩
theorem dX3_read_86 : decode cX3_read 86 = .ok (.areturn, 1) := by decide +kernel
def B_X3_read_86 (fu : Nat) (n0 : Nat) (o : Nat) (S : Hp) (s0 : Option Nat) : Option (Option Nat × Hp) :=
  some (s0, S)
set_option maxRecDepth 100000 in
set_option maxHeartbeats 4000000 in
theorem w_X3_read_86  {E : Cx} {l : Launch} {res : Option Nat × Hp} {ad : Nat → Nat} {ad0 : Nat → Nat} {fu : Nat} {n0 : Nat} {o : Nat} {S : Hp} {s0 : Option Nat} (K : Kx E cX3_read RX3 (rmd 70 4 326)) (X : Bx E l yX3_read 1 (some (.object "DrumOfGuilt$Law")) 4 326 ad0 (QRa n0 res)) (he : ∀ k, k < n0 → ad k = ad0 k) (h : B_X3_read_86 fu n0 o S s0 = some res) : J E 4 326 86 [] [vR s0] S ad := by
  exact j_rretA K X he dX3_read_86 (Nat.le_of_ble_eq_true rfl) (Nat.le_of_ble_eq_true rfl) h
def B_X3_read_55 (fu : Nat) (n0 : Nat) (o : Nat) (S : Hp) : Option (Option Nat × Hp) :=
  (gI S (some o) 2 1).bind fun v56 =>
  if v56 = (-1 : Int32) then
    (chn n0 S [(some o)]).bind fun _ =>
    (gR (mk S 1 0) (some o) 2 3).bind fun v68 =>
    (gI (mk S 1 0) (some o) 2 4).bind fun v72 =>
    (gR (mk S 1 0) (some o) 2 5).bind fun v76 =>
    (ob (mk S 1 0) 1 (some S.1)).bind fun _ =>
    (chn n0 (mk S 1 0) [(some o), (some S.1)]).bind fun _ =>
    (F_X2_init fu (mk S 1 0) S.1 v68 v72 v76).bind fun S79 =>
    B_X3_read_86 fu n0 o S79 (some S.1)
  else
    B_X3_read_86 fu n0 o S none
set_option maxRecDepth 100000 in
set_option maxHeartbeats 4000000 in
theorem w_X3_read_55  {E : Cx} {l : Launch} {res : Option Nat × Hp} {ad : Nat → Nat} {ad0 : Nat → Nat} {fu : Nat} {n0 : Nat} {o : Nat} {S : Hp} (K : Kx E cX3_read RX3 (rmd 70 4 326)) (X : Bx E l yX3_read 1 (some (.object "DrumOfGuilt$Law")) 4 326 ad0 (QRa n0 res)) (he : ∀ k, k < n0 → ad k = ad0 k) (h : B_X3_read_55 fu n0 o S = some res) : J E 0 0 55 [(0, vR (some o))] [] S ad := by
  refine j_aload_n K dX3_read_55 rfl 0 rfl ?_
  obtain ⟨v56, e56, h⟩ := bd h
  refine fgX3_9 K dX3_read_56 e56 ?_
  refine j_iconst (v := (-1 : Int32)) K dX3_read_59 (by decide) ?_
  refine j_icmp_ne K dX3_read_60 (fun c60 => ?_) (fun c60 => ?_)
  · replace h := ie c60 h
    refine j_null K dX3_read_85 ?_
    refine j_widen (Nat.le_of_ble_eq_true rfl : 0 ≤ 4) (Nat.le_of_ble_eq_true rfl : 0 ≤ 326) ?_
    exact j_sub [] rfl (w_X3_read_86 K X he h)
  · replace h := it c60 h
    obtain ⟨u63, e63, h⟩ := bd h
    refine j_new (t := 1) K (by decide) rfl zinX2 tyX2_ok zdf_1 dX3_read_63 z336 z337 z11 ⟨Nat.le_of_ble_eq_true rfl, Nat.le_of_ble_eq_true rfl⟩ rfl e63 (fun ad63 a63 => ?_)
    have he63 := heX e63 a63 he
    refine j_dup K dX3_read_66 rfl ?_
    refine j_aload_n K dX3_read_67 rfl 0 rfl ?_
    obtain ⟨v68, e68, h⟩ := bd h
    refine fgX3_18 K dX3_read_68 e68 ?_
    refine j_aload_n K dX3_read_71 rfl 0 rfl ?_
    obtain ⟨v72, e72, h⟩ := bd h
    refine fgX3_22 K dX3_read_72 e72 ?_
    refine j_aload_n K dX3_read_75 rfl 0 rfl ?_
    obtain ⟨v76, e76, h⟩ := bd h
    refine fgX3_25 K dX3_read_76 e76 ?_
    obtain ⟨w79, ew79, h⟩ := bd h
    have ho79 := obS ew79
    obtain ⟨u79, q79, h⟩ := bd h
    obtain ⟨S79, e79, h⟩ := bd h
    refine j_cVa (st := [vR (some S.1)]) K (r_I (vs := [vR v68, vI v72, vR v76]) (n := 3) (o := S.1) K (c_X2_init e79) dX3_read_79 rfl z338 z339 z11 z340 ⟨zd_X2_init, rfl, rfl, rfl, ⟨Nat.le_of_ble_eq_true rfl, Nat.le_of_ble_eq_true rfl⟩, Nat.le_of_ble_eq_true rfl, Nat.le_of_ble_eq_true rfl, Nat.le_of_ble_eq_true rfl⟩) rfl rfl q79 (fun ad79 a79 => ?_)
    have he79 := heX q79 a79 he63
    refine j_goto K dX3_read_82 ?_
    exact j_sub [] rfl (w_X3_read_86 K X he79 h)
def F_X3_read (fu : Nat) (S : Hp) (o : Nat) : Option (Option Nat × Hp) :=
  (gR S (some o) 2 0).bind fun v1 =>
  (ob S 4 v1).bind fun o4 =>
  (F_X6_split fu S o4).bind fun S4 =>
  (pI S4 (some o) 2 1 (-1 : Int32)).bind fun S9 =>
  (pI S9 (some o) 2 2 (0 : Int32)).bind fun S14 =>
  (pI S14 (some o) 2 4 (0 : Int32)).bind fun S19 =>
  (ob S19 2 (some o)).bind fun _ =>
  (F_X3_clause fu S19 o (0 : Int32) (10 : Int32)).bind fun S26 =>
  (ob S26 2 (some o)).bind fun _ =>
  (F_X3_clause fu S26 o (1 : Int32) (11 : Int32)).bind fun S33 =>
  (ob S33 2 (some o)).bind fun _ =>
  (F_X3_clause fu S33 o (2 : Int32) (12 : Int32)).bind fun S40 =>
  (ob S40 2 (some o)).bind fun _ =>
  b2 (F_X3_isNext S40 o (0 : Int32)) fun v45 S45 =>
  if v45 = 0 then
    (ob S45 2 (some o)).bind fun _ =>
    (F_X3_fail S45 o).bind fun S52 =>
    B_X3_read_55 fu S.1 o S52
  else
    B_X3_read_55 fu S.1 o S45
set_option maxRecDepth 100000 in
set_option maxHeartbeats 4000000 in
theorem w_X3_read {E : Cx} {l : Launch} {res : Option Nat × Hp} {ad : Nat → Nat} {fu : Nat} {S : Hp} {o : Nat} (K : Kx E cX3_read RX3 (rmd 70 4 326)) (X : Bx E l yX3_read 1 (some (.object "DrumOfGuilt$Law")) 4 326 ad (QRa S.1 res)) (h : F_X3_read fu S o = some res) : J E 0 0 0 [(0, vR (some o))] [] S ad := by
  have he : ∀ k, k < S.1 → ad k = ad k := fun _ _ => rfl
  refine j_aload_n K dX3_read_0 rfl 0 rfl ?_
  obtain ⟨v1, e1, h⟩ := bd h
  refine fgX3_28 K dX3_read_1 e1 ?_
  obtain ⟨o4, ew4, hz4⟩ := bd h
  obtain ⟨er4, ho4⟩ := ob_some ew4
  subst er4
  have h := hz4
  obtain ⟨S4, e4, h⟩ := bd h
  refine j_cV (st := []) K (r_V (vs := []) (n := 0) (o := o4) K (c_X6_split e4) ho4 (by decide) rfl dX3_read_4 z222 z223 z224 z3 z225 ⟨zd_X6_split, rfl, rfl, rfl, ⟨Nat.le_of_ble_eq_true rfl, Nat.le_of_ble_eq_true rfl⟩, Nat.le_of_ble_eq_true rfl, Nat.le_of_ble_eq_true rfl, Nat.le_of_ble_eq_true rfl⟩) rfl ?_
  refine j_aload_n K dX3_read_7 rfl 0 rfl ?_
  refine j_iconst (v := (-1 : Int32)) K dX3_read_8 (by decide) ?_
  obtain ⟨S9, e9, h⟩ := bd h
  refine fpX3_9 K dX3_read_9 e9 ?_
  refine j_aload_n K dX3_read_12 rfl 0 rfl ?_
  refine j_iconst (v := (0 : Int32)) K dX3_read_13 (by decide) ?_
  obtain ⟨S14, e14, h⟩ := bd h
  refine fpX3_15 K dX3_read_14 e14 ?_
  refine j_aload_n K dX3_read_17 rfl 0 rfl ?_
  refine j_iconst (v := (0 : Int32)) K dX3_read_18 (by decide) ?_
  obtain ⟨S19, e19, h⟩ := bd h
  refine fpX3_22 K dX3_read_19 e19 ?_
  refine j_aload_n K dX3_read_22 rfl 0 rfl ?_
  refine j_iconst (v := (0 : Int32)) K dX3_read_23 (by decide) ?_
  refine j_bipush (v := (10 : Int32)) K dX3_read_24 (by decide) ?_
  obtain ⟨w26, ew26, h⟩ := bd h
  have ho26 := obS ew26
  obtain ⟨S26, e26, h⟩ := bd h
  refine j_cV (st := []) K (r_V (vs := [vI (0 : Int32), vI (10 : Int32)]) (n := 2) (o := o) K (c_X3_clause e26) ho26 (by decide) rfl dX3_read_26 z271 z273 zs3 z4 z274 ⟨zd_X3_clause, rfl, rfl, rfl, ⟨Nat.le_of_ble_eq_true rfl, Nat.le_of_ble_eq_true rfl⟩, Nat.le_of_ble_eq_true rfl, Nat.le_of_ble_eq_true rfl, Nat.le_of_ble_eq_true rfl⟩) rfl ?_
  refine j_aload_n K dX3_read_29 rfl 0 rfl ?_
  refine j_iconst (v := (1 : Int32)) K dX3_read_30 (by decide) ?_
  refine j_bipush (v := (11 : Int32)) K dX3_read_31 (by decide) ?_
  obtain ⟨w33, ew33, h⟩ := bd h
  have ho33 := obS ew33
  obtain ⟨S33, e33, h⟩ := bd h
  refine j_cV (st := []) K (r_V (vs := [vI (1 : Int32), vI (11 : Int32)]) (n := 2) (o := o) K (c_X3_clause e33) ho33 (by decide) rfl dX3_read_33 z271 z273 zs3 z4 z274 ⟨zd_X3_clause, rfl, rfl, rfl, ⟨Nat.le_of_ble_eq_true rfl, Nat.le_of_ble_eq_true rfl⟩, Nat.le_of_ble_eq_true rfl, Nat.le_of_ble_eq_true rfl, Nat.le_of_ble_eq_true rfl⟩) rfl ?_
  refine j_aload_n K dX3_read_36 rfl 0 rfl ?_
  refine j_iconst (v := (2 : Int32)) K dX3_read_37 (by decide) ?_
  refine j_bipush (v := (12 : Int32)) K dX3_read_38 (by decide) ?_
  obtain ⟨w40, ew40, h⟩ := bd h
  have ho40 := obS ew40
  obtain ⟨S40, e40, h⟩ := bd h
  refine j_cV (st := []) K (r_V (vs := [vI (2 : Int32), vI (12 : Int32)]) (n := 2) (o := o) K (c_X3_clause e40) ho40 (by decide) rfl dX3_read_40 z271 z273 zs3 z4 z274 ⟨zd_X3_clause, rfl, rfl, rfl, ⟨Nat.le_of_ble_eq_true rfl, Nat.le_of_ble_eq_true rfl⟩, Nat.le_of_ble_eq_true rfl, Nat.le_of_ble_eq_true rfl, Nat.le_of_ble_eq_true rfl⟩) rfl ?_
  refine j_aload_n K dX3_read_43 rfl 0 rfl ?_
  refine j_iconst (v := (0 : Int32)) K dX3_read_44 (by decide) ?_
  obtain ⟨w45, ew45, h⟩ := bd h
  have ho45 := obS ew45
  obtain ⟨v45, S45, e45, h⟩ := bd2 h
  refine j_cI (st := []) K (r_V (vs := [vI (0 : Int32)]) (n := 1) (o := o) K (c_X3_isNext e45) ho45 (by decide) rfl dX3_read_45 z279 z281 zs5 z4 z282 ⟨zd_X3_isNext, rfl, rfl, rfl, ⟨Nat.le_of_ble_eq_true rfl, Nat.le_of_ble_eq_true rfl⟩, Nat.le_of_ble_eq_true rfl, Nat.le_of_ble_eq_true rfl, Nat.le_of_ble_eq_true rfl⟩) rfl ?_
  refine j_if_ne K dX3_read_48 (fun c48 => ?_) (fun c48 => ?_)
  · replace h := ie c48 h
    exact w_X3_read_55 K X he h
  · replace h := it c48 h
    refine j_aload_n K dX3_read_51 rfl 0 rfl ?_
    obtain ⟨w52, ew52, h⟩ := bd h
    have ho52 := obS ew52
    obtain ⟨S52, e52, h⟩ := bd h
    refine j_cV (st := []) K (r_V (vs := []) (n := 0) (o := o) K (c_X3_fail e52) ho52 (by decide) rfl dX3_read_52 z284 z286 zs6 z4 z287 ⟨zd_X3_fail, rfl, rfl, rfl, ⟨Nat.le_of_ble_eq_true rfl, Nat.le_of_ble_eq_true rfl⟩, Nat.le_of_ble_eq_true rfl, Nat.le_of_ble_eq_true rfl, Nat.le_of_ble_eq_true rfl⟩) rfl ?_
    exact w_X3_read_55 K X he h
theorem c_X3_read {l : Launch} {fu : Nat} {S : Hp} {o : Nat} {res : Option Nat × Hp} (h : F_X3_read fu S o = some res) : Ct l yX3_read cX3_read 1 (some (.object "DrumOfGuilt$Law")) (rmd 70 4 326) 4 326 [vR (some o)] S (QRa S.1 res) :=
  z_entry (by decide +kernel) (Nat.le_of_ble_eq_true rfl) (fun E ad K X => w_X3_read K X h)

theorem dX4_init_0 : decode cX4_init 0 = .ok (.aload_n 0, 1) ∧ 0 + 1 = 1 := ⟨by decide +kernel, rfl⟩
theorem dX4_init_1 : decode cX4_init 1 = .ok (.invokespecial 3, 3) ∧ 1 + 3 = 4 := ⟨by decide +kernel, rfl⟩
theorem dX4_init_4 : decode cX4_init 4 = .ok (.aload_n 0, 1) ∧ 4 + 1 = 5 := ⟨by decide +kernel, rfl⟩
theorem dX4_init_5 : decode cX4_init 5 = .ok (.iconst (-1), 1) ∧ 5 + 1 = 6 := ⟨by decide +kernel, rfl⟩
theorem dX4_init_6 : decode cX4_init 6 = .ok (.putfield 9, 3) ∧ 6 + 3 = 9 := ⟨by decide +kernel, rfl⟩
theorem dX4_init_9 : decode cX4_init 9 = .ok (.aload_n 0, 1) ∧ 9 + 1 = 10 := ⟨by decide +kernel, rfl⟩
theorem dX4_init_10 : decode cX4_init 10 = .ok (.iconst 0, 1) ∧ 10 + 1 = 11 := ⟨by decide +kernel, rfl⟩
theorem dX4_init_11 : decode cX4_init 11 = .ok (.putfield 15, 3) ∧ 11 + 3 = 14 := ⟨by decide +kernel, rfl⟩
theorem dX4_init_14 : decode cX4_init 14 = .ok (.aload_n 0, 1) ∧ 14 + 1 = 15 := ⟨by decide +kernel, rfl⟩
theorem dX4_init_15 : decode cX4_init 15 = .ok (.bipush 40, 2) ∧ 15 + 2 = 17 := ⟨by decide +kernel, rfl⟩
theorem dX4_init_17 : decode cX4_init 17 = .ok (.newarray .int, 2) ∧ 17 + 2 = 19 := ⟨by decide +kernel, rfl⟩
theorem dX4_init_19 : decode cX4_init 19 = .ok (.putfield 18, 3) ∧ 19 + 3 = 22 := ⟨by decide +kernel, rfl⟩
theorem dX4_init_22 : decode cX4_init 22 = .ok (.return_, 1) := by decide +kernel
def F_X4_init (S : Hp) (o : Nat) : Option (Hp) :=
  (pI S (some o) 3 0 (-1 : Int32)).bind fun S6 =>
  (pI S6 (some o) 3 1 (0 : Int32)).bind fun S11 =>
  (chn S.1 S11 [(some o), (some o)]).bind fun _ =>
  (nA S11 40 (40 : Int32)).bind fun S17 =>
  (pR S17 (some o) 3 2 (some S11.1)).bind fun S19 =>
  some S19
set_option maxRecDepth 100000 in
set_option maxHeartbeats 4000000 in
theorem w_X4_init {E : Cx} {l : Launch} {res : Hp} {ad : Nat → Nat} {S : Hp} {o : Nat} (K : Kx E cX4_init RX4 (rmd 1 1 40)) (X : Bx E l yX4_init 1 none 1 40 ad (QVa S.1 res)) (h : F_X4_init S o = some res) : J E 0 0 0 [(0, vR (some o))] [] S ad := by
  have he : ∀ k, k < S.1 → ad k = ad k := fun _ _ => rfl
  refine j_aload_n K dX4_init_0 rfl 0 rfl ?_
  refine j_oinit K dX4_init_1 z148 z23 z24 (Nat.le_of_ble_eq_true rfl) (Nat.le_of_ble_eq_true rfl) ?_
  refine j_aload_n K dX4_init_4 rfl 0 rfl ?_
  refine j_iconst (v := (-1 : Int32)) K dX4_init_5 (by decide) ?_
  obtain ⟨S6, e6, h⟩ := bd h
  refine fpX4_9 K dX4_init_6 e6 ?_
  refine j_aload_n K dX4_init_9 rfl 0 rfl ?_
  refine j_iconst (v := (0 : Int32)) K dX4_init_10 (by decide) ?_
  obtain ⟨S11, e11, h⟩ := bd h
  refine fpX4_15 K dX4_init_11 e11 ?_
  refine j_aload_n K dX4_init_14 rfl 0 rfl ?_
  refine j_bipush (v := (40 : Int32)) K dX4_init_15 (by decide) ?_
  obtain ⟨u17, e17, h⟩ := bd h
  obtain ⟨S17, g17, h⟩ := bd h
  refine j_nA (M := 40) K dX4_init_17 z88 (by decide) ⟨Nat.le_of_ble_eq_true rfl, Nat.le_of_ble_eq_true rfl⟩ rfl e17 g17 (fun ad17 a17 => ?_)
  have he17 := heX e17 a17 he
  obtain ⟨S19, e19, h⟩ := bd h
  refine fpX4_18 X.2.2.2.1 K dX4_init_19 e19 ?_
  exact j_vretA K X he17 dX4_init_22 (Nat.le_of_ble_eq_true rfl) (Nat.le_of_ble_eq_true rfl) h
theorem c_X4_init {l : Launch} {S : Hp} {o : Nat} {res : Hp} (h : F_X4_init S o = some res) : Ct l yX4_init cX4_init 1 none (rmd 1 1 40) 1 40 [vR (some o)] S (QVa S.1 res) :=
  z_entry (by decide +kernel) (Nat.le_of_ble_eq_true rfl) (fun E ad K X => w_X4_init K X h)

theorem dX4_isMissing_0 : decode cX4_isMissing 0 = .ok (.aload_n 0, 1) ∧ 0 + 1 = 1 := ⟨by decide +kernel, rfl⟩
theorem dX4_isMissing_1 : decode cX4_isMissing 1 = .ok (.getfield 9, 3) ∧ 1 + 3 = 4 := ⟨by decide +kernel, rfl⟩
theorem dX4_isMissing_4 : decode cX4_isMissing 4 = .ok (.iconst (-1), 1) ∧ 4 + 1 = 5 := ⟨by decide +kernel, rfl⟩
theorem dX4_isMissing_5 : decode cX4_isMissing 5 = .ok (.if_icmp .ne 7, 3) ∧ 5 + 3 = 8 ∧ ((5 : Nat) : Int) + (7) = ((12 : Nat) : Int) := ⟨by decide +kernel, rfl, by decide⟩
theorem dX4_isMissing_8 : decode cX4_isMissing 8 = .ok (.iconst 1, 1) ∧ 8 + 1 = 9 := ⟨by decide +kernel, rfl⟩
theorem dX4_isMissing_9 : decode cX4_isMissing 9 = .ok (.goto 4, 3) ∧ ((9 : Nat) : Int) + (4) = ((13 : Nat) : Int) := ⟨by decide +kernel, by decide⟩
theorem dX4_isMissing_12 : decode cX4_isMissing 12 = .ok (.iconst 0, 1) ∧ 12 + 1 = 13 := ⟨by decide +kernel, rfl⟩
theorem dX4_isMissing_13 : decode cX4_isMissing 13 = .ok (.ireturn, 1) := by decide +kernel
def B_X4_isMissing_13 (o : Nat) (S : Hp) (s0 : Int32) : Option (Int32 × Hp) :=
  zb s0 S
set_option maxRecDepth 100000 in
set_option maxHeartbeats 4000000 in
theorem w_X4_isMissing_13 {E : Cx} {l : Launch} {res : Int32 × Hp} {ad : Nat → Nat} {o : Nat} {S : Hp} {s0 : Int32} (K : Kx E cX4_isMissing RX4 (rmd 0 0 0)) (X : Bx E l yX4_isMissing 1 (some .boolean) 0 0 ad (QI res)) (h : B_X4_isMissing_13 o S s0 = some res) : J E 0 0 13 [] [vI s0] S ad := by
  exact j_zret K X dX4_isMissing_13 h
def F_X4_isMissing (S : Hp) (o : Nat) : Option (Int32 × Hp) :=
  (gI S (some o) 3 0).bind fun v1 =>
  if v1 = (-1 : Int32) then
    B_X4_isMissing_13 o S (1 : Int32)
  else
    B_X4_isMissing_13 o S (0 : Int32)
set_option maxRecDepth 100000 in
set_option maxHeartbeats 4000000 in
theorem w_X4_isMissing {E : Cx} {l : Launch} {res : Int32 × Hp} {ad : Nat → Nat} {S : Hp} {o : Nat} (K : Kx E cX4_isMissing RX4 (rmd 0 0 0)) (X : Bx E l yX4_isMissing 1 (some .boolean) 0 0 ad (QI res)) (h : F_X4_isMissing S o = some res) : J E 0 0 0 [(0, vR (some o))] [] S ad := by
  refine j_aload_n K dX4_isMissing_0 rfl 0 rfl ?_
  obtain ⟨v1, e1, h⟩ := bd h
  refine fgX4_9 K dX4_isMissing_1 e1 ?_
  refine j_iconst (v := (-1 : Int32)) K dX4_isMissing_4 (by decide) ?_
  refine j_icmp_ne K dX4_isMissing_5 (fun c5 => ?_) (fun c5 => ?_)
  · replace h := ie c5 h
    refine j_iconst (v := (0 : Int32)) K dX4_isMissing_12 (by decide) ?_
    exact j_sub [] rfl (w_X4_isMissing_13 K X h)
  · replace h := it c5 h
    refine j_iconst (v := (1 : Int32)) K dX4_isMissing_8 (by decide) ?_
    refine j_goto K dX4_isMissing_9 ?_
    exact j_sub [] rfl (w_X4_isMissing_13 K X h)
theorem c_X4_isMissing {l : Launch} {S : Hp} {o : Nat} {res : Int32 × Hp} (h : F_X4_isMissing S o = some res) : Ct l yX4_isMissing cX4_isMissing 1 (some .boolean) (rmd 0 0 0) 0 0 [vR (some o)] S (QI res) :=
  z_entry (by decide +kernel) (Nat.le_of_ble_eq_true rfl) (fun E ad K X => w_X4_isMissing K X h)

theorem dX4_lay_0 : decode cX4_lay 0 = .ok (.aload_n 0, 1) ∧ 0 + 1 = 1 := ⟨by decide +kernel, rfl⟩
theorem dX4_lay_1 : decode cX4_lay 1 = .ok (.iload_n 1, 1) ∧ 1 + 1 = 2 := ⟨by decide +kernel, rfl⟩
theorem dX4_lay_2 : decode cX4_lay 2 = .ok (.putfield 9, 3) ∧ 2 + 3 = 5 := ⟨by decide +kernel, rfl⟩
theorem dX4_lay_5 : decode cX4_lay 5 = .ok (.aload_n 0, 1) ∧ 5 + 1 = 6 := ⟨by decide +kernel, rfl⟩
theorem dX4_lay_6 : decode cX4_lay 6 = .ok (.iload_n 2, 1) ∧ 6 + 1 = 7 := ⟨by decide +kernel, rfl⟩
theorem dX4_lay_7 : decode cX4_lay 7 = .ok (.putfield 15, 3) ∧ 7 + 3 = 10 := ⟨by decide +kernel, rfl⟩
theorem dX4_lay_10 : decode cX4_lay 10 = .ok (.iconst 0, 1) ∧ 10 + 1 = 11 := ⟨by decide +kernel, rfl⟩
theorem dX4_lay_11 : decode cX4_lay 11 = .ok (.istore_n 3, 1) ∧ 11 + 1 = 12 := ⟨by decide +kernel, rfl⟩
theorem dX4_lay_12 : decode cX4_lay 12 = .ok (.iload_n 3, 1) ∧ 12 + 1 = 13 := ⟨by decide +kernel, rfl⟩
theorem dX4_lay_13 : decode cX4_lay 13 = .ok (.aload_n 0, 1) ∧ 13 + 1 = 14 := ⟨by decide +kernel, rfl⟩
theorem dX4_lay_14 : decode cX4_lay 14 = .ok (.getfield 18, 3) ∧ 14 + 3 = 17 := ⟨by decide +kernel, rfl⟩
theorem dX4_lay_17 : decode cX4_lay 17 = .ok (.arraylength, 1) ∧ 17 + 1 = 18 := ⟨by decide +kernel, rfl⟩
theorem dX4_lay_18 : decode cX4_lay 18 = .ok (.if_icmp .ge 16, 3) ∧ 18 + 3 = 21 ∧ ((18 : Nat) : Int) + (16) = ((34 : Nat) : Int) := ⟨by decide +kernel, rfl, by decide⟩
theorem dX4_lay_21 : decode cX4_lay 21 = .ok (.aload_n 0, 1) ∧ 21 + 1 = 22 := ⟨by decide +kernel, rfl⟩
theorem dX4_lay_22 : decode cX4_lay 22 = .ok (.getfield 18, 3) ∧ 22 + 3 = 25 := ⟨by decide +kernel, rfl⟩
theorem dX4_lay_25 : decode cX4_lay 25 = .ok (.iload_n 3, 1) ∧ 25 + 1 = 26 := ⟨by decide +kernel, rfl⟩
theorem dX4_lay_26 : decode cX4_lay 26 = .ok (.iconst 0, 1) ∧ 26 + 1 = 27 := ⟨by decide +kernel, rfl⟩
theorem dX4_lay_27 : decode cX4_lay 27 = .ok (.iastore, 1) ∧ 27 + 1 = 28 := ⟨by decide +kernel, rfl⟩
theorem dX4_lay_28 : decode cX4_lay 28 = .ok (.iinc 3 1, 3) ∧ 28 + 3 = 31 := ⟨by decide +kernel, rfl⟩
theorem dX4_lay_31 : decode cX4_lay 31 = .ok (.goto (-19), 3) ∧ ((31 : Nat) : Int) + (-19) = ((12 : Nat) : Int) := ⟨by decide +kernel, by decide⟩
theorem dX4_lay_34 : decode cX4_lay 34 = .ok (.return_, 1) := by decide +kernel
def L_X4_lay_12 (k12 : Hp → Int32 → Option (Hp)) (fu : Nat) (o : Nat) (S : Hp) (x3 : Int32) : Option (Hp) :=
  (gR S (some o) 3 2).bind fun v14 =>
  (aL S v14 7).bind fun v17 =>
  if v17 ≤ x3 then
    some S
  else
    (gR S (some o) 3 2).bind fun v22 =>
    (aP S v22 x3 (0 : Int32)).bind fun S27 =>
    k12 S27 (x3 + (1 : Int32))
set_option maxRecDepth 100000 in
set_option maxHeartbeats 4000000 in
theorem wl_X4_lay_12 {E : Cx} {l : Launch} {res : Hp} {ad : Nat → Nat} {k12 : Hp → Int32 → Option (Hp)} {fu : Nat} {o : Nat} {S : Hp} {x3 : Int32} (K : Kx E cX4_lay RX4 (rmd 0 0 0)) (X : Bx E l yX4_lay 4 none 0 0 ad (QV res)) (hk12 : ∀ (S : Hp) (x3 : Int32), k12 S x3 = some res → J E 0 0 12 [(0, vR (some o)), (3, vI x3)] [] S ad) (h : L_X4_lay_12 k12 fu o S x3 = some res) : J E 0 0 12 [(0, vR (some o)), (3, vI x3)] [] S ad := by
  refine j_iload_n K dX4_lay_12 rfl 1 rfl ?_
  refine j_aload_n K dX4_lay_13 rfl 0 rfl ?_
  obtain ⟨v14, e14, h⟩ := bd h
  refine fgX4_18 K dX4_lay_14 e14 ?_
  obtain ⟨v17, e17, h⟩ := bd h
  refine j_aL K (by decide) dX4_lay_17 e17 ?_
  refine j_icmp_ge K dX4_lay_18 (fun c18 => ?_) (fun c18 => ?_)
  · replace h := it c18 h
    exact j_vret K X dX4_lay_34 h
  · replace h := ie c18 h
    refine j_aload_n K dX4_lay_21 rfl 0 rfl ?_
    obtain ⟨v22, e22, h⟩ := bd h
    refine fgX4_18 K dX4_lay_22 e22 ?_
    refine j_iload_n K dX4_lay_25 rfl 1 rfl ?_
    refine j_iconst (v := (0 : Int32)) K dX4_lay_26 (by decide) ?_
    obtain ⟨S27, e27, h⟩ := bd h
    refine j_aP K dX4_lay_27 e27 ?_
    refine j_iinc (q := 1) (v := (x3 + (1 : Int32))) (lv' := [(3, vI (x3 + (1 : Int32))), (0, vR (some o))]) K dX4_lay_28 rfl rfl X.2.2.1 (by decide) rfl ?_
    refine j_goto K dX4_lay_31 ?_
    exact j_sub [1, 0] rfl (hk12 _ _ h)
def B_X4_lay_12 (fu : Nat) (o : Nat) : Nat → Hp → Int32 → Option (Hp)
  | 0 => fun _ _ => none
  | n + 1 => L_X4_lay_12 (B_X4_lay_12 fu o n) fu o
theorem w_X4_lay_12 {E : Cx} {l : Launch} {res : Hp} {ad : Nat → Nat} {fu : Nat} {o : Nat} (K : Kx E cX4_lay RX4 (rmd 0 0 0)) (X : Bx E l yX4_lay 4 none 0 0 ad (QV res)) : ∀ (n : Nat) (S : Hp) (x3 : Int32), B_X4_lay_12 fu o n S x3 = some res → J E 0 0 12 [(0, vR (some o)), (3, vI x3)] [] S ad := by
  intro n
  induction n with
  | zero =>
    intro S x3 h
    cases h
  | succ n ih =>
    intro S x3 h
    exact wl_X4_lay_12 K X ih h
def F_X4_lay (fu : Nat) (S : Hp) (o : Nat) (x1 : Int32) (x2 : Int32) : Option (Hp) :=
  (pI S (some o) 3 0 x1).bind fun S2 =>
  (pI S2 (some o) 3 1 x2).bind fun S7 =>
  B_X4_lay_12 fu o fu S7 (0 : Int32)
set_option maxRecDepth 100000 in
set_option maxHeartbeats 4000000 in
theorem w_X4_lay {E : Cx} {l : Launch} {res : Hp} {ad : Nat → Nat} {fu : Nat} {S : Hp} {o : Nat} {x1 : Int32} {x2 : Int32} (K : Kx E cX4_lay RX4 (rmd 0 0 0)) (X : Bx E l yX4_lay 4 none 0 0 ad (QV res)) (h : F_X4_lay fu S o x1 x2 = some res) : J E 0 0 0 [(0, vR (some o)), (1, vI x1), (2, vI x2)] [] S ad := by
  refine j_aload_n K dX4_lay_0 rfl 0 rfl ?_
  refine j_iload_n K dX4_lay_1 rfl 1 rfl ?_
  obtain ⟨S2, e2, h⟩ := bd h
  refine fpX4_9 K dX4_lay_2 e2 ?_
  refine j_aload_n K dX4_lay_5 rfl 0 rfl ?_
  refine j_iload_n K dX4_lay_6 rfl 2 rfl ?_
  obtain ⟨S7, e7, h⟩ := bd h
  refine fpX4_15 K dX4_lay_7 e7 ?_
  refine j_iconst (v := (0 : Int32)) K dX4_lay_10 (by decide) ?_
  refine j_istore_n (lv' := [(3, vI (0 : Int32)), (0, vR (some o)), (1, vI x1), (2, vI x2)]) K dX4_lay_11 rfl X.2.2.1 (by decide) rfl ?_
  exact j_sub [1, 0] rfl (w_X4_lay_12 K X _ _ _ h)
theorem c_X4_lay {l : Launch} {fu : Nat} {S : Hp} {o : Nat} {x1 : Int32} {x2 : Int32} {res : Hp} (h : F_X4_lay fu S o x1 x2 = some res) : Ct l yX4_lay cX4_lay 4 none (rmd 0 0 0) 0 0 [vR (some o), vI x1, vI x2] S (QV res) :=
  z_entry (by decide +kernel) (Nat.le_of_ble_eq_true rfl) (fun E ad K X => w_X4_lay K X h)

theorem dX4_write_0 : decode cX4_write 0 = .ok (.aload_n 0, 1) ∧ 0 + 1 = 1 := ⟨by decide +kernel, rfl⟩
theorem dX4_write_1 : decode cX4_write 1 = .ok (.getfield 18, 3) ∧ 1 + 3 = 4 := ⟨by decide +kernel, rfl⟩
theorem dX4_write_4 : decode cX4_write 4 = .ok (.iload_n 1, 1) ∧ 4 + 1 = 5 := ⟨by decide +kernel, rfl⟩
theorem dX4_write_5 : decode cX4_write 5 = .ok (.aload_n 0, 1) ∧ 5 + 1 = 6 := ⟨by decide +kernel, rfl⟩
theorem dX4_write_6 : decode cX4_write 6 = .ok (.getfield 9, 3) ∧ 6 + 3 = 9 := ⟨by decide +kernel, rfl⟩
theorem dX4_write_9 : decode cX4_write 9 = .ok (.ifCond .ne 8, 3) ∧ 9 + 3 = 12 ∧ ((9 : Nat) : Int) + (8) = ((17 : Nat) : Int) := ⟨by decide +kernel, rfl, by decide⟩
theorem dX4_write_12 : decode cX4_write 12 = .ok (.iload_n 2, 1) ∧ 12 + 1 = 13 := ⟨by decide +kernel, rfl⟩
theorem dX4_write_13 : decode cX4_write 13 = .ok (.i2b, 1) ∧ 13 + 1 = 14 := ⟨by decide +kernel, rfl⟩
theorem dX4_write_14 : decode cX4_write 14 = .ok (.goto 17, 3) ∧ ((14 : Nat) : Int) + (17) = ((31 : Nat) : Int) := ⟨by decide +kernel, by decide⟩
theorem dX4_write_17 : decode cX4_write 17 = .ok (.aload_n 0, 1) ∧ 17 + 1 = 18 := ⟨by decide +kernel, rfl⟩
theorem dX4_write_18 : decode cX4_write 18 = .ok (.getfield 9, 3) ∧ 18 + 3 = 21 := ⟨by decide +kernel, rfl⟩
theorem dX4_write_21 : decode cX4_write 21 = .ok (.iconst 1, 1) ∧ 21 + 1 = 22 := ⟨by decide +kernel, rfl⟩
theorem dX4_write_22 : decode cX4_write 22 = .ok (.if_icmp .ne 8, 3) ∧ 22 + 3 = 25 ∧ ((22 : Nat) : Int) + (8) = ((30 : Nat) : Int) := ⟨by decide +kernel, rfl, by decide⟩
theorem dX4_write_25 : decode cX4_write 25 = .ok (.iload_n 2, 1) ∧ 25 + 1 = 26 := ⟨by decide +kernel, rfl⟩
theorem dX4_write_26 : decode cX4_write 26 = .ok (.i2s, 1) ∧ 26 + 1 = 27 := ⟨by decide +kernel, rfl⟩
theorem dX4_write_27 : decode cX4_write 27 = .ok (.goto 4, 3) ∧ ((27 : Nat) : Int) + (4) = ((31 : Nat) : Int) := ⟨by decide +kernel, by decide⟩
theorem dX4_write_30 : decode cX4_write 30 = .ok (.iload_n 2, 1) ∧ 30 + 1 = 31 := ⟨by decide +kernel, rfl⟩
theorem dX4_write_31 : decode cX4_write 31 = .ok (.invokestatic 34, 3) := by decide +kernel
theorem dX4_write_34 : decode cX4_write 34 = .ok (.return_, 1) := by decide +kernel
def B_X4_write_31 (o : Nat) (S : Hp) (s0 : Int32) (s1 : Int32) (s2 : Option Nat) : Option (Hp) :=
  (F_X7_store S s2 s1 s0).bind fun S31 =>
  some S31
set_option maxRecDepth 100000 in
set_option maxHeartbeats 4000000 in
theorem w_X4_write_31 {E : Cx} {l : Launch} {res : Hp} {ad : Nat → Nat} {o : Nat} {S : Hp} {s0 : Int32} {s1 : Int32} {s2 : Option Nat} (K : Kx E cX4_write RX4 (rmd 1 0 0)) (X : Bx E l yX4_write 3 none 0 0 ad (QV res)) (h : B_X4_write_31 o S s0 s1 s2 = some res) : J E 0 0 31 [] [vI s0, vI s1, vR s2] S ad := by
  obtain ⟨S31, e31, h⟩ := bd h
  refine j_cV (st := []) K (r_SN (vs := [vR s2, vI s1, vI s0]) (n := 3) (host := RX7) K (c_X7_store e31) dX4_write_31 (List.mem_of_getElem? (i := 16) rfl) z216 z1 z217 ⟨zd_X7_store, rfl, rfl, rfl, ⟨Nat.le_of_ble_eq_true rfl, Nat.le_of_ble_eq_true rfl⟩, Nat.le_of_ble_eq_true rfl, Nat.le_of_ble_eq_true rfl, Nat.le_of_ble_eq_true rfl⟩) rfl ?_
  exact j_vret K X dX4_write_34 h
def F_X4_write (S : Hp) (o : Nat) (x1 : Int32) (x2 : Int32) : Option (Hp) :=
  (gR S (some o) 3 2).bind fun v1 =>
  (gI S (some o) 3 0).bind fun v6 =>
  if v6 = 0 then
    B_X4_write_31 o S x2.toInt8.toInt32 x1 v1
  else
    (gI S (some o) 3 0).bind fun v18 =>
    if v18 = (1 : Int32) then
      B_X4_write_31 o S x2.toInt16.toInt32 x1 v1
    else
      B_X4_write_31 o S x2 x1 v1
set_option maxRecDepth 100000 in
set_option maxHeartbeats 4000000 in
theorem w_X4_write {E : Cx} {l : Launch} {res : Hp} {ad : Nat → Nat} {S : Hp} {o : Nat} {x1 : Int32} {x2 : Int32} (K : Kx E cX4_write RX4 (rmd 1 0 0)) (X : Bx E l yX4_write 3 none 0 0 ad (QV res)) (h : F_X4_write S o x1 x2 = some res) : J E 0 0 0 [(0, vR (some o)), (1, vI x1), (2, vI x2)] [] S ad := by
  refine j_aload_n K dX4_write_0 rfl 0 rfl ?_
  obtain ⟨v1, e1, h⟩ := bd h
  refine fgX4_18 K dX4_write_1 e1 ?_
  refine j_iload_n K dX4_write_4 rfl 1 rfl ?_
  refine j_aload_n K dX4_write_5 rfl 0 rfl ?_
  obtain ⟨v6, e6, h⟩ := bd h
  refine fgX4_9 K dX4_write_6 e6 ?_
  refine j_if_ne K dX4_write_9 (fun c9 => ?_) (fun c9 => ?_)
  · replace h := ie c9 h
    refine j_aload_n K dX4_write_17 rfl 0 rfl ?_
    obtain ⟨v18, e18, h⟩ := bd h
    refine fgX4_9 K dX4_write_18 e18 ?_
    refine j_iconst (v := (1 : Int32)) K dX4_write_21 (by decide) ?_
    refine j_icmp_ne K dX4_write_22 (fun c22 => ?_) (fun c22 => ?_)
    · replace h := ie c22 h
      refine j_iload_n K dX4_write_30 rfl 2 rfl ?_
      exact j_sub [] rfl (w_X4_write_31 K X h)
    · replace h := it c22 h
      refine j_iload_n K dX4_write_25 rfl 2 rfl ?_
      refine j_i2s K dX4_write_26 ?_
      refine j_goto K dX4_write_27 ?_
      exact j_sub [] rfl (w_X4_write_31 K X h)
  · replace h := it c9 h
    refine j_iload_n K dX4_write_12 rfl 2 rfl ?_
    refine j_i2b K dX4_write_13 ?_
    refine j_goto K dX4_write_14 ?_
    exact j_sub [] rfl (w_X4_write_31 K X h)
theorem c_X4_write {l : Launch} {S : Hp} {o : Nat} {x1 : Int32} {x2 : Int32} {res : Hp} (h : F_X4_write S o x1 x2 = some res) : Ct l yX4_write cX4_write 3 none (rmd 1 0 0) 0 0 [vR (some o), vI x1, vI x2] S (QV res) :=
  z_entry (by decide +kernel) (Nat.le_of_ble_eq_true rfl) (fun E ad K X => w_X4_write K X h)

theorem dX6_init_0 : decode cX6_init 0 = .ok (.aload_n 0, 1) ∧ 0 + 1 = 1 := ⟨by decide +kernel, rfl⟩
theorem dX6_init_1 : decode cX6_init 1 = .ok (.invokespecial 3, 3) ∧ 1 + 3 = 4 := ⟨by decide +kernel, rfl⟩
theorem dX6_init_4 : decode cX6_init 4 = .ok (.aload_n 0, 1) ∧ 4 + 1 = 5 := ⟨by decide +kernel, rfl⟩
theorem dX6_init_5 : decode cX6_init 5 = .ok (.sipush 160, 3) ∧ 5 + 3 = 8 := ⟨by decide +kernel, rfl⟩
theorem dX6_init_8 : decode cX6_init 8 = .ok (.newarray .int, 2) ∧ 8 + 2 = 10 := ⟨by decide +kernel, rfl⟩
theorem dX6_init_10 : decode cX6_init 10 = .ok (.putfield 9, 3) ∧ 10 + 3 = 13 := ⟨by decide +kernel, rfl⟩
theorem dX6_init_13 : decode cX6_init 13 = .ok (.aload_n 0, 1) ∧ 13 + 1 = 14 := ⟨by decide +kernel, rfl⟩
theorem dX6_init_14 : decode cX6_init 14 = .ok (.iconst 0, 1) ∧ 14 + 1 = 15 := ⟨by decide +kernel, rfl⟩
theorem dX6_init_15 : decode cX6_init 15 = .ok (.putfield 15, 3) ∧ 15 + 3 = 18 := ⟨by decide +kernel, rfl⟩
theorem dX6_init_18 : decode cX6_init 18 = .ok (.aload_n 0, 1) ∧ 18 + 1 = 19 := ⟨by decide +kernel, rfl⟩
theorem dX6_init_19 : decode cX6_init 19 = .ok (.sipush 161, 3) ∧ 19 + 3 = 22 := ⟨by decide +kernel, rfl⟩
theorem dX6_init_22 : decode cX6_init 22 = .ok (.newarray .int, 2) ∧ 22 + 2 = 24 := ⟨by decide +kernel, rfl⟩
theorem dX6_init_24 : decode cX6_init 24 = .ok (.putfield 19, 3) ∧ 24 + 3 = 27 := ⟨by decide +kernel, rfl⟩
theorem dX6_init_27 : decode cX6_init 27 = .ok (.aload_n 0, 1) ∧ 27 + 1 = 28 := ⟨by decide +kernel, rfl⟩
theorem dX6_init_28 : decode cX6_init 28 = .ok (.sipush 161, 3) ∧ 28 + 3 = 31 := ⟨by decide +kernel, rfl⟩
theorem dX6_init_31 : decode cX6_init 31 = .ok (.newarray .int, 2) ∧ 31 + 2 = 33 := ⟨by decide +kernel, rfl⟩
theorem dX6_init_33 : decode cX6_init 33 = .ok (.putfield 22, 3) ∧ 33 + 3 = 36 := ⟨by decide +kernel, rfl⟩
theorem dX6_init_36 : decode cX6_init 36 = .ok (.aload_n 0, 1) ∧ 36 + 1 = 37 := ⟨by decide +kernel, rfl⟩
theorem dX6_init_37 : decode cX6_init 37 = .ok (.sipush 161, 3) ∧ 37 + 3 = 40 := ⟨by decide +kernel, rfl⟩
theorem dX6_init_40 : decode cX6_init 40 = .ok (.newarray .int, 2) ∧ 40 + 2 = 42 := ⟨by decide +kernel, rfl⟩
theorem dX6_init_42 : decode cX6_init 42 = .ok (.putfield 25, 3) ∧ 42 + 3 = 45 := ⟨by decide +kernel, rfl⟩
theorem dX6_init_45 : decode cX6_init 45 = .ok (.return_, 1) := by decide +kernel
def F_X6_init (S : Hp) (o : Nat) : Option (Hp) :=
  (chn S.1 S [(some o), (some o)]).bind fun _ =>
  (nA S 160 (160 : Int32)).bind fun S8 =>
  (pR S8 (some o) 4 0 (some S.1)).bind fun S10 =>
  (pI S10 (some o) 4 1 (0 : Int32)).bind fun S15 =>
  (chn S.1 S15 [(some o), (some o)]).bind fun _ =>
  (nA S15 161 (161 : Int32)).bind fun S22 =>
  (pR S22 (some o) 4 2 (some S15.1)).bind fun S24 =>
  (chn S.1 S24 [(some o), (some o)]).bind fun _ =>
  (nA S24 161 (161 : Int32)).bind fun S31 =>
  (pR S31 (some o) 4 3 (some S24.1)).bind fun S33 =>
  (chn S.1 S33 [(some o), (some o)]).bind fun _ =>
  (nA S33 161 (161 : Int32)).bind fun S40 =>
  (pR S40 (some o) 4 4 (some S33.1)).bind fun S42 =>
  some S42
set_option maxRecDepth 100000 in
set_option maxHeartbeats 4000000 in
theorem w_X6_init {E : Cx} {l : Launch} {res : Hp} {ad : Nat → Nat} {S : Hp} {o : Nat} (K : Kx E cX6_init RX6 (rmd 1 4 643)) (X : Bx E l yX6_init 1 none 4 643 ad (QVa S.1 res)) (h : F_X6_init S o = some res) : J E 0 0 0 [(0, vR (some o))] [] S ad := by
  have he : ∀ k, k < S.1 → ad k = ad k := fun _ _ => rfl
  refine j_aload_n K dX6_init_0 rfl 0 rfl ?_
  refine j_oinit K dX6_init_1 z94 z23 z24 (Nat.le_of_ble_eq_true rfl) (Nat.le_of_ble_eq_true rfl) ?_
  refine j_aload_n K dX6_init_4 rfl 0 rfl ?_
  refine j_sipush (v := (160 : Int32)) K dX6_init_5 (by decide) ?_
  obtain ⟨u8, e8, h⟩ := bd h
  obtain ⟨S8, g8, h⟩ := bd h
  refine j_nA (M := 160) K dX6_init_8 z88 (by decide) ⟨Nat.le_of_ble_eq_true rfl, Nat.le_of_ble_eq_true rfl⟩ rfl e8 g8 (fun ad8 a8 => ?_)
  have he8 := heX e8 a8 he
  obtain ⟨S10, e10, h⟩ := bd h
  refine fpX6_9 X.2.2.2.1 K dX6_init_10 e10 ?_
  refine j_aload_n K dX6_init_13 rfl 0 rfl ?_
  refine j_iconst (v := (0 : Int32)) K dX6_init_14 (by decide) ?_
  obtain ⟨S15, e15, h⟩ := bd h
  refine fpX6_15 K dX6_init_15 e15 ?_
  refine j_aload_n K dX6_init_18 rfl 0 rfl ?_
  refine j_sipush (v := (161 : Int32)) K dX6_init_19 (by decide) ?_
  obtain ⟨u22, e22, h⟩ := bd h
  obtain ⟨S22, g22, h⟩ := bd h
  refine j_nA (M := 161) K dX6_init_22 z88 (by decide) ⟨Nat.le_of_ble_eq_true rfl, Nat.le_of_ble_eq_true rfl⟩ rfl e22 g22 (fun ad22 a22 => ?_)
  have he22 := heX e22 a22 he8
  obtain ⟨S24, e24, h⟩ := bd h
  refine fpX6_19 X.2.2.2.1 K dX6_init_24 e24 ?_
  refine j_aload_n K dX6_init_27 rfl 0 rfl ?_
  refine j_sipush (v := (161 : Int32)) K dX6_init_28 (by decide) ?_
  obtain ⟨u31, e31, h⟩ := bd h
  obtain ⟨S31, g31, h⟩ := bd h
  refine j_nA (M := 161) K dX6_init_31 z88 (by decide) ⟨Nat.le_of_ble_eq_true rfl, Nat.le_of_ble_eq_true rfl⟩ rfl e31 g31 (fun ad31 a31 => ?_)
  have he31 := heX e31 a31 he22
  obtain ⟨S33, e33, h⟩ := bd h
  refine fpX6_22 X.2.2.2.1 K dX6_init_33 e33 ?_
  refine j_aload_n K dX6_init_36 rfl 0 rfl ?_
  refine j_sipush (v := (161 : Int32)) K dX6_init_37 (by decide) ?_
  obtain ⟨u40, e40, h⟩ := bd h
  obtain ⟨S40, g40, h⟩ := bd h
  refine j_nA (M := 161) K dX6_init_40 z88 (by decide) ⟨Nat.le_of_ble_eq_true rfl, Nat.le_of_ble_eq_true rfl⟩ rfl e40 g40 (fun ad40 a40 => ?_)
  have he40 := heX e40 a40 he31
  obtain ⟨S42, e42, h⟩ := bd h
  refine fpX6_25 X.2.2.2.1 K dX6_init_42 e42 ?_
  exact j_vretA K X he40 dX6_init_45 (Nat.le_of_ble_eq_true rfl) (Nat.le_of_ble_eq_true rfl) h
theorem c_X6_init {l : Launch} {S : Hp} {o : Nat} {res : Hp} (h : F_X6_init S o = some res) : Ct l yX6_init cX6_init 1 none (rmd 1 4 643) 4 643 [vR (some o)] S (QVa S.1 res) :=
  z_entry (by decide +kernel) (Nat.le_of_ble_eq_true rfl) (fun E ad K X => w_X6_init K X h)

theorem dX6_append_0 : decode cX6_append 0 = .ok (.aload_n 0, 1) ∧ 0 + 1 = 1 := ⟨by decide +kernel, rfl⟩
theorem dX6_append_1 : decode cX6_append 1 = .ok (.getfield 15, 3) ∧ 1 + 3 = 4 := ⟨by decide +kernel, rfl⟩
theorem dX6_append_4 : decode cX6_append 4 = .ok (.aload_n 0, 1) ∧ 4 + 1 = 5 := ⟨by decide +kernel, rfl⟩
theorem dX6_append_5 : decode cX6_append 5 = .ok (.getfield 9, 3) ∧ 5 + 3 = 8 := ⟨by decide +kernel, rfl⟩
theorem dX6_append_8 : decode cX6_append 8 = .ok (.arraylength, 1) ∧ 8 + 1 = 9 := ⟨by decide +kernel, rfl⟩
theorem dX6_append_9 : decode cX6_append 9 = .ok (.if_icmp .ge 25, 3) ∧ 9 + 3 = 12 ∧ ((9 : Nat) : Int) + (25) = ((34 : Nat) : Int) := ⟨by decide +kernel, rfl, by decide⟩
theorem dX6_append_12 : decode cX6_append 12 = .ok (.aload_n 0, 1) ∧ 12 + 1 = 13 := ⟨by decide +kernel, rfl⟩
theorem dX6_append_13 : decode cX6_append 13 = .ok (.getfield 9, 3) ∧ 13 + 3 = 16 := ⟨by decide +kernel, rfl⟩
theorem dX6_append_16 : decode cX6_append 16 = .ok (.aload_n 0, 1) ∧ 16 + 1 = 17 := ⟨by decide +kernel, rfl⟩
theorem dX6_append_17 : decode cX6_append 17 = .ok (.getfield 15, 3) ∧ 17 + 3 = 20 := ⟨by decide +kernel, rfl⟩
theorem dX6_append_20 : decode cX6_append 20 = .ok (.iload_n 1, 1) ∧ 20 + 1 = 21 := ⟨by decide +kernel, rfl⟩
theorem dX6_append_21 : decode cX6_append 21 = .ok (.invokestatic 28, 3) := by decide +kernel
theorem dX6_append_24 : decode cX6_append 24 = .ok (.aload_n 0, 1) ∧ 24 + 1 = 25 := ⟨by decide +kernel, rfl⟩
theorem dX6_append_25 : decode cX6_append 25 = .ok (.dup, 1) ∧ 25 + 1 = 26 := ⟨by decide +kernel, rfl⟩
theorem dX6_append_26 : decode cX6_append 26 = .ok (.getfield 15, 3) ∧ 26 + 3 = 29 := ⟨by decide +kernel, rfl⟩
theorem dX6_append_29 : decode cX6_append 29 = .ok (.iconst 1, 1) ∧ 29 + 1 = 30 := ⟨by decide +kernel, rfl⟩
theorem dX6_append_30 : decode cX6_append 30 = .ok (.iadd, 1) ∧ 30 + 1 = 31 := ⟨by decide +kernel, rfl⟩
theorem dX6_append_31 : decode cX6_append 31 = .ok (.putfield 15, 3) ∧ 31 + 3 = 34 := ⟨by decide +kernel, rfl⟩
theorem dX6_append_34 : decode cX6_append 34 = .ok (.return_, 1) := by decide +kernel
def B_X6_append_34 (o : Nat) (S : Hp) : Option (Hp) :=
  some S
set_option maxRecDepth 100000 in
set_option maxHeartbeats 4000000 in
theorem w_X6_append_34 {E : Cx} {l : Launch} {res : Hp} {ad : Nat → Nat} {o : Nat} {S : Hp} (K : Kx E cX6_append RX6 (rmd 1 0 0)) (X : Bx E l yX6_append 2 none 0 0 ad (QV res)) (h : B_X6_append_34 o S = some res) : J E 0 0 34 [] [] S ad := by
  exact j_vret K X dX6_append_34 h
def F_X6_append (S : Hp) (o : Nat) (x1 : Int32) : Option (Hp) :=
  (gI S (some o) 4 1).bind fun v1 =>
  (gR S (some o) 4 0).bind fun v5 =>
  (aL S v5 7).bind fun v8 =>
  if v8 ≤ v1 then
    B_X6_append_34 o S
  else
    (gR S (some o) 4 0).bind fun v13 =>
    (gI S (some o) 4 1).bind fun v17 =>
    (F_X7_store S v13 v17 x1).bind fun S21 =>
    (gI S21 (some o) 4 1).bind fun v26 =>
    (pI S21 (some o) 4 1 (v26 + (1 : Int32))).bind fun S31 =>
    B_X6_append_34 o S31
set_option maxRecDepth 100000 in
set_option maxHeartbeats 4000000 in
theorem w_X6_append {E : Cx} {l : Launch} {res : Hp} {ad : Nat → Nat} {S : Hp} {o : Nat} {x1 : Int32} (K : Kx E cX6_append RX6 (rmd 1 0 0)) (X : Bx E l yX6_append 2 none 0 0 ad (QV res)) (h : F_X6_append S o x1 = some res) : J E 0 0 0 [(0, vR (some o)), (1, vI x1)] [] S ad := by
  refine j_aload_n K dX6_append_0 rfl 0 rfl ?_
  obtain ⟨v1, e1, h⟩ := bd h
  refine fgX6_15 K dX6_append_1 e1 ?_
  refine j_aload_n K dX6_append_4 rfl 0 rfl ?_
  obtain ⟨v5, e5, h⟩ := bd h
  refine fgX6_9 K dX6_append_5 e5 ?_
  obtain ⟨v8, e8, h⟩ := bd h
  refine j_aL K (by decide) dX6_append_8 e8 ?_
  refine j_icmp_ge K dX6_append_9 (fun c9 => ?_) (fun c9 => ?_)
  · replace h := it c9 h
    exact j_sub [] rfl (w_X6_append_34 K X h)
  · replace h := ie c9 h
    refine j_aload_n K dX6_append_12 rfl 0 rfl ?_
    obtain ⟨v13, e13, h⟩ := bd h
    refine fgX6_9 K dX6_append_13 e13 ?_
    refine j_aload_n K dX6_append_16 rfl 0 rfl ?_
    obtain ⟨v17, e17, h⟩ := bd h
    refine fgX6_15 K dX6_append_17 e17 ?_
    refine j_iload_n K dX6_append_20 rfl 1 rfl ?_
    obtain ⟨S21, e21, h⟩ := bd h
    refine j_cV (st := []) K (r_SN (vs := [vR v13, vI v17, vI x1]) (n := 3) (host := RX7) K (c_X7_store e21) dX6_append_21 (List.mem_of_getElem? (i := 3) rfl) z216 z1 z217 ⟨zd_X7_store, rfl, rfl, rfl, ⟨Nat.le_of_ble_eq_true rfl, Nat.le_of_ble_eq_true rfl⟩, Nat.le_of_ble_eq_true rfl, Nat.le_of_ble_eq_true rfl, Nat.le_of_ble_eq_true rfl⟩) rfl ?_
    refine j_aload_n K dX6_append_24 rfl 0 rfl ?_
    refine j_dup K dX6_append_25 rfl ?_
    obtain ⟨v26, e26, h⟩ := bd h
    refine fgX6_15 K dX6_append_26 e26 ?_
    refine j_iconst (v := (1 : Int32)) K dX6_append_29 (by decide) ?_
    refine j_iadd K dX6_append_30 ?_
    obtain ⟨S31, e31, h⟩ := bd h
    refine fpX6_15 K dX6_append_31 e31 ?_
    exact j_sub [] rfl (w_X6_append_34 K X h)
theorem c_X6_append {l : Launch} {S : Hp} {o : Nat} {x1 : Int32} {res : Hp} (h : F_X6_append S o x1 = some res) : Ct l yX6_append cX6_append 2 none (rmd 1 0 0) 0 0 [vR (some o), vI x1] S (QV res) :=
  z_entry (by decide +kernel) (Nat.le_of_ble_eq_true rfl) (fun E ad K X => w_X6_append K X h)

theorem dX6_empty_0 : decode cX6_empty 0 = .ok (.aload_n 0, 1) ∧ 0 + 1 = 1 := ⟨by decide +kernel, rfl⟩
theorem dX6_empty_1 : decode cX6_empty 1 = .ok (.iconst 0, 1) ∧ 1 + 1 = 2 := ⟨by decide +kernel, rfl⟩
theorem dX6_empty_2 : decode cX6_empty 2 = .ok (.putfield 15, 3) ∧ 2 + 3 = 5 := ⟨by decide +kernel, rfl⟩
theorem dX6_empty_5 : decode cX6_empty 5 = .ok (.return_, 1) := by decide +kernel
def F_X6_empty (S : Hp) (o : Nat) : Option (Hp) :=
  (pI S (some o) 4 1 (0 : Int32)).bind fun S2 =>
  some S2
set_option maxRecDepth 100000 in
set_option maxHeartbeats 4000000 in
theorem w_X6_empty {E : Cx} {l : Launch} {res : Hp} {ad : Nat → Nat} {S : Hp} {o : Nat} (K : Kx E cX6_empty RX6 (rmd 0 0 0)) (X : Bx E l yX6_empty 1 none 0 0 ad (QV res)) (h : F_X6_empty S o = some res) : J E 0 0 0 [(0, vR (some o))] [] S ad := by
  refine j_aload_n K dX6_empty_0 rfl 0 rfl ?_
  refine j_iconst (v := (0 : Int32)) K dX6_empty_1 (by decide) ?_
  obtain ⟨S2, e2, h⟩ := bd h
  refine fpX6_15 K dX6_empty_2 e2 ?_
  exact j_vret K X dX6_empty_5 h
theorem c_X6_empty {l : Launch} {S : Hp} {o : Nat} {res : Hp} (h : F_X6_empty S o = some res) : Ct l yX6_empty cX6_empty 1 none (rmd 0 0 0) 0 0 [vR (some o)] S (QV res) :=
  z_entry (by decide +kernel) (Nat.le_of_ble_eq_true rfl) (fun E ad K X => w_X6_empty K X h)

theorem dX7_init_0 : decode cX7_init 0 = .ok (.aload_n 0, 1) ∧ 0 + 1 = 1 := ⟨by decide +kernel, rfl⟩
theorem dX7_init_1 : decode cX7_init 1 = .ok (.invokespecial 1, 3) ∧ 1 + 3 = 4 := ⟨by decide +kernel, rfl⟩
theorem dX7_init_4 : decode cX7_init 4 = .ok (.aload_n 0, 1) ∧ 4 + 1 = 5 := ⟨by decide +kernel, rfl⟩
theorem dX7_init_5 : decode cX7_init 5 = .ok (.new 7, 3) ∧ 5 + 3 = 8 := ⟨by decide +kernel, rfl⟩
theorem dX7_init_8 : decode cX7_init 8 = .ok (.dup, 1) ∧ 8 + 1 = 9 := ⟨by decide +kernel, rfl⟩
theorem dX7_init_9 : decode cX7_init 9 = .ok (.invokespecial 9, 3) := by decide +kernel
theorem dX7_init_12 : decode cX7_init 12 = .ok (.putfield 10, 3) ∧ 12 + 3 = 15 := ⟨by decide +kernel, rfl⟩
theorem dX7_init_15 : decode cX7_init 15 = .ok (.aload_n 0, 1) ∧ 15 + 1 = 16 := ⟨by decide +kernel, rfl⟩
theorem dX7_init_16 : decode cX7_init 16 = .ok (.new 7, 3) ∧ 16 + 3 = 19 := ⟨by decide +kernel, rfl⟩
theorem dX7_init_19 : decode cX7_init 19 = .ok (.dup, 1) ∧ 19 + 1 = 20 := ⟨by decide +kernel, rfl⟩
theorem dX7_init_20 : decode cX7_init 20 = .ok (.invokespecial 9, 3) := by decide +kernel
theorem dX7_init_23 : decode cX7_init 23 = .ok (.putfield 16, 3) ∧ 23 + 3 = 26 := ⟨by decide +kernel, rfl⟩
theorem dX7_init_26 : decode cX7_init 26 = .ok (.aload_n 0, 1) ∧ 26 + 1 = 27 := ⟨by decide +kernel, rfl⟩
theorem dX7_init_27 : decode cX7_init 27 = .ok (.new 7, 3) ∧ 27 + 3 = 30 := ⟨by decide +kernel, rfl⟩
theorem dX7_init_30 : decode cX7_init 30 = .ok (.dup, 1) ∧ 30 + 1 = 31 := ⟨by decide +kernel, rfl⟩
theorem dX7_init_31 : decode cX7_init 31 = .ok (.invokespecial 9, 3) := by decide +kernel
theorem dX7_init_34 : decode cX7_init 34 = .ok (.putfield 19, 3) ∧ 34 + 3 = 37 := ⟨by decide +kernel, rfl⟩
theorem dX7_init_37 : decode cX7_init 37 = .ok (.aload_n 0, 1) ∧ 37 + 1 = 38 := ⟨by decide +kernel, rfl⟩
theorem dX7_init_38 : decode cX7_init 38 = .ok (.iconst 0, 1) ∧ 38 + 1 = 39 := ⟨by decide +kernel, rfl⟩
theorem dX7_init_39 : decode cX7_init 39 = .ok (.putfield 22, 3) ∧ 39 + 3 = 42 := ⟨by decide +kernel, rfl⟩
theorem dX7_init_42 : decode cX7_init 42 = .ok (.aload_n 0, 1) ∧ 42 + 1 = 43 := ⟨by decide +kernel, rfl⟩
theorem dX7_init_43 : decode cX7_init 43 = .ok (.new 26, 3) ∧ 43 + 3 = 46 := ⟨by decide +kernel, rfl⟩
theorem dX7_init_46 : decode cX7_init 46 = .ok (.dup, 1) ∧ 46 + 1 = 47 := ⟨by decide +kernel, rfl⟩
theorem dX7_init_47 : decode cX7_init 47 = .ok (.invokespecial 28, 3) := by decide +kernel
theorem dX7_init_50 : decode cX7_init 50 = .ok (.putfield 29, 3) ∧ 50 + 3 = 53 := ⟨by decide +kernel, rfl⟩
theorem dX7_init_53 : decode cX7_init 53 = .ok (.aload_n 0, 1) ∧ 53 + 1 = 54 := ⟨by decide +kernel, rfl⟩
theorem dX7_init_54 : decode cX7_init 54 = .ok (.new 33, 3) ∧ 54 + 3 = 57 := ⟨by decide +kernel, rfl⟩
theorem dX7_init_57 : decode cX7_init 57 = .ok (.dup, 1) ∧ 57 + 1 = 58 := ⟨by decide +kernel, rfl⟩
theorem dX7_init_58 : decode cX7_init 58 = .ok (.aload_n 0, 1) ∧ 58 + 1 = 59 := ⟨by decide +kernel, rfl⟩
theorem dX7_init_59 : decode cX7_init 59 = .ok (.getfield 29, 3) ∧ 59 + 3 = 62 := ⟨by decide +kernel, rfl⟩
theorem dX7_init_62 : decode cX7_init 62 = .ok (.invokespecial 35, 3) := by decide +kernel
theorem dX7_init_65 : decode cX7_init 65 = .ok (.putfield 38, 3) ∧ 65 + 3 = 68 := ⟨by decide +kernel, rfl⟩
theorem dX7_init_68 : decode cX7_init 68 = .ok (.aload_n 0, 1) ∧ 68 + 1 = 69 := ⟨by decide +kernel, rfl⟩
theorem dX7_init_69 : decode cX7_init 69 = .ok (.bipush 6, 2) ∧ 69 + 2 = 71 := ⟨by decide +kernel, rfl⟩
theorem dX7_init_71 : decode cX7_init 71 = .ok (.anewarray 42, 3) ∧ 71 + 3 = 74 := ⟨by decide +kernel, rfl⟩
theorem dX7_init_74 : decode cX7_init 74 = .ok (.putfield 44, 3) ∧ 74 + 3 = 77 := ⟨by decide +kernel, rfl⟩
theorem dX7_init_77 : decode cX7_init 77 = .ok (.aload_n 0, 1) ∧ 77 + 1 = 78 := ⟨by decide +kernel, rfl⟩
theorem dX7_init_78 : decode cX7_init 78 = .ok (.iconst 0, 1) ∧ 78 + 1 = 79 := ⟨by decide +kernel, rfl⟩
theorem dX7_init_79 : decode cX7_init 79 = .ok (.putfield 48, 3) ∧ 79 + 3 = 82 := ⟨by decide +kernel, rfl⟩
theorem dX7_init_82 : decode cX7_init 82 = .ok (.aload_n 0, 1) ∧ 82 + 1 = 83 := ⟨by decide +kernel, rfl⟩
theorem dX7_init_83 : decode cX7_init 83 = .ok (.iconst 4, 1) ∧ 83 + 1 = 84 := ⟨by decide +kernel, rfl⟩
theorem dX7_init_84 : decode cX7_init 84 = .ok (.anewarray 52, 3) ∧ 84 + 3 = 87 := ⟨by decide +kernel, rfl⟩
theorem dX7_init_87 : decode cX7_init 87 = .ok (.putfield 54, 3) ∧ 87 + 3 = 90 := ⟨by decide +kernel, rfl⟩
theorem dX7_init_90 : decode cX7_init 90 = .ok (.aload_n 0, 1) ∧ 90 + 1 = 91 := ⟨by decide +kernel, rfl⟩
theorem dX7_init_91 : decode cX7_init 91 = .ok (.bipush 10, 2) ∧ 91 + 2 = 93 := ⟨by decide +kernel, rfl⟩
theorem dX7_init_93 : decode cX7_init 93 = .ok (.newarray .int, 2) ∧ 93 + 2 = 95 := ⟨by decide +kernel, rfl⟩
theorem dX7_init_95 : decode cX7_init 95 = .ok (.putfield 58, 3) ∧ 95 + 3 = 98 := ⟨by decide +kernel, rfl⟩
theorem dX7_init_98 : decode cX7_init 98 = .ok (.iconst 0, 1) ∧ 98 + 1 = 99 := ⟨by decide +kernel, rfl⟩
theorem dX7_init_99 : decode cX7_init 99 = .ok (.istore_n 1, 1) ∧ 99 + 1 = 100 := ⟨by decide +kernel, rfl⟩
theorem dX7_init_100 : decode cX7_init 100 = .ok (.iload_n 1, 1) ∧ 100 + 1 = 101 := ⟨by decide +kernel, rfl⟩
theorem dX7_init_101 : decode cX7_init 101 = .ok (.aload_n 0, 1) ∧ 101 + 1 = 102 := ⟨by decide +kernel, rfl⟩
theorem dX7_init_102 : decode cX7_init 102 = .ok (.getfield 54, 3) ∧ 102 + 3 = 105 := ⟨by decide +kernel, rfl⟩
theorem dX7_init_105 : decode cX7_init 105 = .ok (.arraylength, 1) ∧ 105 + 1 = 106 := ⟨by decide +kernel, rfl⟩
theorem dX7_init_106 : decode cX7_init 106 = .ok (.if_icmp .ge 22, 3) ∧ 106 + 3 = 109 ∧ ((106 : Nat) : Int) + (22) = ((128 : Nat) : Int) := ⟨by decide +kernel, rfl, by decide⟩
theorem dX7_init_109 : decode cX7_init 109 = .ok (.aload_n 0, 1) ∧ 109 + 1 = 110 := ⟨by decide +kernel, rfl⟩
theorem dX7_init_110 : decode cX7_init 110 = .ok (.getfield 54, 3) ∧ 110 + 3 = 113 := ⟨by decide +kernel, rfl⟩
theorem dX7_init_113 : decode cX7_init 113 = .ok (.iload_n 1, 1) ∧ 113 + 1 = 114 := ⟨by decide +kernel, rfl⟩
theorem dX7_init_114 : decode cX7_init 114 = .ok (.new 52, 3) ∧ 114 + 3 = 117 := ⟨by decide +kernel, rfl⟩
theorem dX7_init_117 : decode cX7_init 117 = .ok (.dup, 1) ∧ 117 + 1 = 118 := ⟨by decide +kernel, rfl⟩
theorem dX7_init_118 : decode cX7_init 118 = .ok (.invokespecial 62, 3) := by decide +kernel
theorem dX7_init_121 : decode cX7_init 121 = .ok (.aastore, 1) ∧ 121 + 1 = 122 := ⟨by decide +kernel, rfl⟩
theorem dX7_init_122 : decode cX7_init 122 = .ok (.iinc 1 1, 3) ∧ 122 + 3 = 125 := ⟨by decide +kernel, rfl⟩
theorem dX7_init_125 : decode cX7_init 125 = .ok (.goto (-25), 3) ∧ ((125 : Nat) : Int) + (-25) = ((100 : Nat) : Int) := ⟨by decide +kernel, by decide⟩
theorem dX7_init_128 : decode cX7_init 128 = .ok (.iconst 0, 1) ∧ 128 + 1 = 129 := ⟨by decide +kernel, rfl⟩
theorem dX7_init_129 : decode cX7_init 129 = .ok (.istore_n 1, 1) ∧ 129 + 1 = 130 := ⟨by decide +kernel, rfl⟩
theorem dX7_init_130 : decode cX7_init 130 = .ok (.iload_n 1, 1) ∧ 130 + 1 = 131 := ⟨by decide +kernel, rfl⟩
theorem dX7_init_131 : decode cX7_init 131 = .ok (.ldc 63, 2) ∧ 131 + 2 = 133 := ⟨by decide +kernel, rfl⟩
theorem dX7_init_133 : decode cX7_init 133 = .ok (.invokevirtual 65, 3) := by decide +kernel
theorem dX7_init_136 : decode cX7_init 136 = .ok (.if_icmp .ge 22, 3) ∧ 136 + 3 = 139 ∧ ((136 : Nat) : Int) + (22) = ((158 : Nat) : Int) := ⟨by decide +kernel, rfl, by decide⟩
theorem dX7_init_139 : decode cX7_init 139 = .ok (.aload_n 0, 1) ∧ 139 + 1 = 140 := ⟨by decide +kernel, rfl⟩
theorem dX7_init_140 : decode cX7_init 140 = .ok (.getfield 29, 3) ∧ 140 + 3 = 143 := ⟨by decide +kernel, rfl⟩
theorem dX7_init_143 : decode cX7_init 143 = .ok (.ldc 63, 2) ∧ 143 + 2 = 145 := ⟨by decide +kernel, rfl⟩
theorem dX7_init_145 : decode cX7_init 145 = .ok (.iload_n 1, 1) ∧ 145 + 1 = 146 := ⟨by decide +kernel, rfl⟩
theorem dX7_init_146 : decode cX7_init 146 = .ok (.invokevirtual 71, 3) := by decide +kernel
theorem dX7_init_149 : decode cX7_init 149 = .ok (.invokevirtual 75, 3) := by decide +kernel
theorem dX7_init_152 : decode cX7_init 152 = .ok (.iinc 1 1, 3) ∧ 152 + 3 = 155 := ⟨by decide +kernel, rfl⟩
theorem dX7_init_155 : decode cX7_init 155 = .ok (.goto (-25), 3) ∧ ((155 : Nat) : Int) + (-25) = ((130 : Nat) : Int) := ⟨by decide +kernel, by decide⟩
theorem dX7_init_158 : decode cX7_init 158 = .ok (.aload_n 0, 1) ∧ 158 + 1 = 159 := ⟨by decide +kernel, rfl⟩
theorem dX7_init_159 : decode cX7_init 159 = .ok (.getfield 44, 3) ∧ 159 + 3 = 162 := ⟨by decide +kernel, rfl⟩
theorem dX7_init_162 : decode cX7_init 162 = .ok (.iconst 0, 1) ∧ 162 + 1 = 163 := ⟨by decide +kernel, rfl⟩
theorem dX7_init_163 : decode cX7_init 163 = .ok (.aload_n 0, 1) ∧ 163 + 1 = 164 := ⟨by decide +kernel, rfl⟩
theorem dX7_init_164 : decode cX7_init 164 = .ok (.getfield 38, 3) ∧ 164 + 3 = 167 := ⟨by decide +kernel, rfl⟩
theorem dX7_init_167 : decode cX7_init 167 = .ok (.invokevirtual 79, 3) := by decide +kernel
theorem dX7_init_170 : decode cX7_init 170 = .ok (.aastore, 1) ∧ 170 + 1 = 171 := ⟨by decide +kernel, rfl⟩
theorem dX7_init_171 : decode cX7_init 171 = .ok (.aload_n 0, 1) ∧ 171 + 1 = 172 := ⟨by decide +kernel, rfl⟩
theorem dX7_init_172 : decode cX7_init 172 = .ok (.iconst 1, 1) ∧ 172 + 1 = 173 := ⟨by decide +kernel, rfl⟩
theorem dX7_init_173 : decode cX7_init 173 = .ok (.putfield 48, 3) ∧ 173 + 3 = 176 := ⟨by decide +kernel, rfl⟩
theorem dX7_init_176 : decode cX7_init 176 = .ok (.aload_n 0, 1) ∧ 176 + 1 = 177 := ⟨by decide +kernel, rfl⟩
theorem dX7_init_177 : decode cX7_init 177 = .ok (.getfield 29, 3) ∧ 177 + 3 = 180 := ⟨by decide +kernel, rfl⟩
theorem dX7_init_180 : decode cX7_init 180 = .ok (.invokevirtual 83, 3) := by decide +kernel
theorem dX7_init_183 : decode cX7_init 183 = .ok (.aload_n 0, 1) ∧ 183 + 1 = 184 := ⟨by decide +kernel, rfl⟩
theorem dX7_init_184 : decode cX7_init 184 = .ok (.getfield 10, 3) ∧ 184 + 3 = 187 := ⟨by decide +kernel, rfl⟩
theorem dX7_init_187 : decode cX7_init 187 = .ok (.iconst 0, 1) ∧ 187 + 1 = 188 := ⟨by decide +kernel, rfl⟩
theorem dX7_init_188 : decode cX7_init 188 = .ok (.aload_n 0, 1) ∧ 188 + 1 = 189 := ⟨by decide +kernel, rfl⟩
theorem dX7_init_189 : decode cX7_init 189 = .ok (.getfield 44, 3) ∧ 189 + 3 = 192 := ⟨by decide +kernel, rfl⟩
theorem dX7_init_192 : decode cX7_init 192 = .ok (.iconst 0, 1) ∧ 192 + 1 = 193 := ⟨by decide +kernel, rfl⟩
theorem dX7_init_193 : decode cX7_init 193 = .ok (.aaload, 1) ∧ 193 + 1 = 194 := ⟨by decide +kernel, rfl⟩
theorem dX7_init_194 : decode cX7_init 194 = .ok (.invokevirtual 86, 3) := by decide +kernel
theorem dX7_init_197 : decode cX7_init 197 = .ok (.return_, 1) := by decide +kernel
def L_X7_init_130 (k130 : Hp → Int32 → Option (Hp)) (fu : Nat) (n0 : Nat) (o : Nat) (S : Hp) (x1 : Int32) : Option (Hp) :=
  (sLen 0).bind fun v133 =>
  if v133 ≤ x1 then
    (gR S (some o) 5 6).bind fun v159 =>
    (gR S (some o) 5 5).bind fun v164 =>
    (ob S 2 v164).bind fun o167 =>
    (chn n0 S [(some o), v159]).bind fun _ =>
    b2 (F_X3_read fu S o167) fun v167 S167 =>
    (rP S167 v159 8 1 (0 : Int32) v167).bind fun S170 =>
    (pI S170 (some o) 5 7 (1 : Int32)).bind fun S173 =>
    (gR S173 (some o) 5 4).bind fun v177 =>
    (ob S173 4 v177).bind fun o180 =>
    (F_X6_empty S173 o180).bind fun S180 =>
    (gR S180 (some o) 5 0).bind fun v184 =>
    (gR S180 (some o) 5 6).bind fun v189 =>
    (rG S180 v189 8 (0 : Int32)).bind fun v193 =>
    (ob S180 0 v184).bind fun o194 =>
    (F_X0_rule S180 o194 (0 : Int32) v193).bind fun S194 =>
    some S194
  else
    (gR S (some o) 5 4).bind fun v140 =>
    (sAt 0 x1).bind fun v146 =>
    (ob S 4 v140).bind fun o149 =>
    (F_X6_append S o149 v146).bind fun S149 =>
    k130 S149 (x1 + (1 : Int32))
set_option maxRecDepth 100000 in
set_option maxHeartbeats 4000000 in
theorem wl_X7_init_130  {E : Cx} {l : Launch} {res : Hp} {ad : Nat → Nat} {ad0 : Nat → Nat} {k130 : Hp → Int32 → Option (Hp)} {fu : Nat} {n0 : Nat} {o : Nat} {S : Hp} {x1 : Int32} (K : Kx E cX7_init RX7 (rmd 71 58 1639)) (X : Bx E l yX7_init 2 none 58 1639 ad0 (QVa n0 res)) (hk130 : ∀ (S : Hp) (x1 : Int32) (ad : Nat → Nat), (∀ k, k < n0 → ad k = ad0 k) → k130 S x1 = some res → J E 52 1270 130 [(0, vR (some o)), (1, vI x1)] [] S ad) (he : ∀ k, k < n0 → ad k = ad0 k) (h : L_X7_init_130 k130 fu n0 o S x1 = some res) : J E 52 1270 130 [(0, vR (some o)), (1, vI x1)] [] S ad := by
  refine j_iload_n K dX7_init_130 rfl 1 rfl ?_
  refine j_ldcS K (by decide) (List.mem_of_getElem? (i := 0) rfl) dX7_init_131 ?_
  obtain ⟨v133, e133, h⟩ := bd h
  refine j_cI (st := [vI x1]) K (r_VK (vs := []) (n := 0) (ix := 0) K (c_slen e133) (sLen_lt e133) dX7_init_133 z163 z164 z165 z6 z166 ⟨zd_J0_length_8abf5, rfl, rfl, rfl, ⟨Nat.le_of_ble_eq_true rfl, Nat.le_of_ble_eq_true rfl⟩, Nat.le_of_ble_eq_true rfl, Nat.le_of_ble_eq_true rfl, Nat.le_of_ble_eq_true rfl⟩) rfl ?_
  refine j_icmp_ge K dX7_init_136 (fun c136 => ?_) (fun c136 => ?_)
  · replace h := it c136 h
    refine j_aload_n K dX7_init_158 rfl 0 rfl ?_
    obtain ⟨v159, e159, h⟩ := bd h
    refine fgX7_44 K dX7_init_159 e159 ?_
    refine j_iconst (v := (0 : Int32)) K dX7_init_162 (by decide) ?_
    refine j_aload_n K dX7_init_163 rfl 0 rfl ?_
    obtain ⟨v164, e164, h⟩ := bd h
    refine fgX7_38 K dX7_init_164 e164 ?_
    obtain ⟨o167, ew167, hz167⟩ := bd h
    obtain ⟨er167, ho167⟩ := ob_some ew167
    subst er167
    have h := hz167
    obtain ⟨u167, q167, h⟩ := bd h
    obtain ⟨v167, S167, e167, h⟩ := bd2 h
    refine j_cRa (st := [vI (0 : Int32), vR v159]) K (r_V (vs := []) (n := 0) (o := o167) K (c_X3_read e167) ho167 (by decide) rfl dX7_init_167 z218 z219 z220 z4 z221 ⟨zd_X3_read, rfl, rfl, rfl, ⟨Nat.le_of_ble_eq_true rfl, Nat.le_of_ble_eq_true rfl⟩, Nat.le_of_ble_eq_true rfl, Nat.le_of_ble_eq_true rfl, Nat.le_of_ble_eq_true rfl⟩) rfl rfl q167 (fun ad167 a167 => ?_)
    have he167 := heX q167 a167 he
    obtain ⟨S170, e170, h⟩ := bd h
    refine j_rP K (by decide) dX7_init_170 e170 ?_
    refine j_aload_n K dX7_init_171 rfl 0 rfl ?_
    refine j_iconst (v := (1 : Int32)) K dX7_init_172 (by decide) ?_
    obtain ⟨S173, e173, h⟩ := bd h
    refine fpX7_48 K dX7_init_173 e173 ?_
    refine j_aload_n K dX7_init_176 rfl 0 rfl ?_
    obtain ⟨v177, e177, h⟩ := bd h
    refine fgX7_29 K dX7_init_177 e177 ?_
    obtain ⟨o180, ew180, hz180⟩ := bd h
    obtain ⟨er180, ho180⟩ := ob_some ew180
    subst er180
    have h := hz180
    obtain ⟨S180, e180, h⟩ := bd h
    refine j_cV (st := []) K (r_V (vs := []) (n := 0) (o := o180) K (c_X6_empty e180) ho180 (by decide) rfl dX7_init_180 z364 z365 z366 z3 z367 ⟨zd_X6_empty, rfl, rfl, rfl, ⟨Nat.le_of_ble_eq_true rfl, Nat.le_of_ble_eq_true rfl⟩, Nat.le_of_ble_eq_true rfl, Nat.le_of_ble_eq_true rfl, Nat.le_of_ble_eq_true rfl⟩) rfl ?_
    refine j_aload_n K dX7_init_183 rfl 0 rfl ?_
    obtain ⟨v184, e184, h⟩ := bd h
    refine fgX7_10 K dX7_init_184 e184 ?_
    refine j_iconst (v := (0 : Int32)) K dX7_init_187 (by decide) ?_
    refine j_aload_n K dX7_init_188 rfl 0 rfl ?_
    obtain ⟨v189, e189, h⟩ := bd h
    refine fgX7_44 K dX7_init_189 e189 ?_
    refine j_iconst (v := (0 : Int32)) K dX7_init_192 (by decide) ?_
    obtain ⟨v193, e193, h⟩ := bd h
    refine j_rG K (by decide) dX7_init_193 e193 ?_
    obtain ⟨o194, ew194, hz194⟩ := bd h
    obtain ⟨er194, ho194⟩ := ob_some ew194
    subst er194
    have h := hz194
    obtain ⟨S194, e194, h⟩ := bd h
    refine j_cV (st := []) K (r_V (vs := [vI (0 : Int32), vR v193]) (n := 2) (o := o194) K (c_X0_rule e194) ho194 (by decide) rfl dX7_init_194 z368 z369 z370 z2 z371 ⟨zd_X0_rule, rfl, rfl, rfl, ⟨Nat.le_of_ble_eq_true rfl, Nat.le_of_ble_eq_true rfl⟩, Nat.le_of_ble_eq_true rfl, Nat.le_of_ble_eq_true rfl, Nat.le_of_ble_eq_true rfl⟩) rfl ?_
    exact j_vretA K X he167 dX7_init_197 (Nat.le_of_ble_eq_true rfl) (Nat.le_of_ble_eq_true rfl) h
  · replace h := ie c136 h
    refine j_aload_n K dX7_init_139 rfl 0 rfl ?_
    obtain ⟨v140, e140, h⟩ := bd h
    refine fgX7_29 K dX7_init_140 e140 ?_
    refine j_ldcS K (by decide) (List.mem_of_getElem? (i := 0) rfl) dX7_init_143 ?_
    refine j_iload_n K dX7_init_145 rfl 1 rfl ?_
    obtain ⟨v146, e146, h⟩ := bd h
    refine j_cI (st := [vR v140]) K (r_VK (vs := [vI x1]) (n := 1) (ix := 0) K (c_sat e146) (sAt_lt e146) dX7_init_146 z173 z174 z175 z6 z176 ⟨zd_J0_charAt_5068e, rfl, rfl, rfl, ⟨Nat.le_of_ble_eq_true rfl, Nat.le_of_ble_eq_true rfl⟩, Nat.le_of_ble_eq_true rfl, Nat.le_of_ble_eq_true rfl, Nat.le_of_ble_eq_true rfl⟩) rfl ?_
    obtain ⟨o149, ew149, hz149⟩ := bd h
    obtain ⟨er149, ho149⟩ := ob_some ew149
    subst er149
    have h := hz149
    obtain ⟨S149, e149, h⟩ := bd h
    refine j_cV (st := []) K (r_V (vs := [vI v146]) (n := 1) (o := o149) K (c_X6_append e149) ho149 (by decide) rfl dX7_init_149 z211 z212 z213 z3 z214 ⟨zd_X6_append, rfl, rfl, rfl, ⟨Nat.le_of_ble_eq_true rfl, Nat.le_of_ble_eq_true rfl⟩, Nat.le_of_ble_eq_true rfl, Nat.le_of_ble_eq_true rfl, Nat.le_of_ble_eq_true rfl⟩) rfl ?_
    refine j_iinc (q := 1) (v := (x1 + (1 : Int32))) (lv' := [(1, vI (x1 + (1 : Int32))), (0, vR (some o))]) K dX7_init_152 rfl rfl X.2.2.1 (by decide) rfl ?_
    refine j_goto K dX7_init_155 ?_
    exact j_sub [1, 0] rfl (hk130 _ _ _ he h)
def B_X7_init_130 (fu : Nat) (n0 : Nat) (o : Nat) : Nat → Hp → Int32 → Option (Hp)
  | 0 => fun _ _ => none
  | n + 1 => L_X7_init_130 (B_X7_init_130 fu n0 o n) fu n0 o
theorem w_X7_init_130 {E : Cx} {l : Launch} {res : Hp} {ad0 : Nat → Nat} {fu : Nat} {n0 : Nat} {o : Nat} (K : Kx E cX7_init RX7 (rmd 71 58 1639)) (X : Bx E l yX7_init 2 none 58 1639 ad0 (QVa n0 res)) : ∀ (n : Nat) (S : Hp) (x1 : Int32) (ad : Nat → Nat), (∀ k, k < n0 → ad k = ad0 k) → B_X7_init_130 fu n0 o n S x1 = some res → J E 52 1270 130 [(0, vR (some o)), (1, vI x1)] [] S ad := by
  intro n
  induction n with
  | zero =>
    intro S x1 ad he h
    cases h
  | succ n ih =>
    intro S x1 ad he h
    exact wl_X7_init_130 K X ih he h
def F_X7_init (fu : Nat) (S : Hp) (o : Nat) : Option (Hp) :=
  (chn S.1 S [(some o), (some o)]).bind fun _ =>
  (ob (mk S 0 0) 0 (some S.1)).bind fun _ =>
  (chn S.1 (mk S 0 0) [(some o), (some S.1), (some o)]).bind fun _ =>
  (F_X0_init (mk S 0 0) S.1).bind fun S9 =>
  (pR S9 (some o) 5 0 (some S.1)).bind fun S12 =>
  (chn S.1 S12 [(some o), (some o)]).bind fun _ =>
  (ob (mk S12 0 0) 0 (some S12.1)).bind fun _ =>
  (chn S.1 (mk S12 0 0) [(some o), (some S12.1), (some o)]).bind fun _ =>
  (F_X0_init (mk S12 0 0) S12.1).bind fun S20 =>
  (pR S20 (some o) 5 1 (some S12.1)).bind fun S23 =>
  (chn S.1 S23 [(some o), (some o)]).bind fun _ =>
  (ob (mk S23 0 0) 0 (some S23.1)).bind fun _ =>
  (chn S.1 (mk S23 0 0) [(some o), (some S23.1), (some o)]).bind fun _ =>
  (F_X0_init (mk S23 0 0) S23.1).bind fun S31 =>
  (pR S31 (some o) 5 2 (some S23.1)).bind fun S34 =>
  (pI S34 (some o) 5 3 (0 : Int32)).bind fun S39 =>
  (chn S.1 S39 [(some o), (some o)]).bind fun _ =>
  (ob (mk S39 4 0) 4 (some S39.1)).bind fun _ =>
  (chn S.1 (mk S39 4 0) [(some o), (some S39.1), (some o)]).bind fun _ =>
  (F_X6_init (mk S39 4 0) S39.1).bind fun S47 =>
  (pR S47 (some o) 5 4 (some S39.1)).bind fun S50 =>
  (chn S.1 S50 [(some o), (some o)]).bind fun _ =>
  (gR (mk S50 2 0) (some o) 5 4).bind fun v59 =>
  (ob (mk S50 2 0) 2 (some S50.1)).bind fun _ =>
  (chn S.1 (mk S50 2 0) [(some o), (some S50.1), (some o)]).bind fun _ =>
  (F_X3_init (mk S50 2 0) S50.1 v59).bind fun S62 =>
  (pR S62 (some o) 5 5 (some S50.1)).bind fun S65 =>
  (chn S.1 S65 [(some o), (some o)]).bind fun _ =>
  (nQ S65 8 6 (6 : Int32)).bind fun S71 =>
  (pR S71 (some o) 5 6 (some S65.1)).bind fun S74 =>
  (pI S74 (some o) 5 7 (0 : Int32)).bind fun S79 =>
  (chn S.1 S79 [(some o), (some o)]).bind fun _ =>
  (nQ S79 9 4 (4 : Int32)).bind fun S84 =>
  (pR S84 (some o) 5 8 (some S79.1)).bind fun S87 =>
  (chn S.1 S87 [(some o), (some o)]).bind fun _ =>
  (nA S87 10 (10 : Int32)).bind fun S93 =>
  (pR S93 (some o) 5 9 (some S87.1)).bind fun S95 =>
  (gR S95 (some o) 5 8).bind fun v102_1 =>
  (aL S95 v102_1 9).bind fun v105_1 =>
  if v105_1 ≤ (0 : Int32) then
    B_X7_init_130 fu S.1 o fu S95 (0 : Int32)
  else
    (gR S95 (some o) 5 8).bind fun v110_1 =>
    (chn S.1 S95 [(some o), v110_1]).bind fun _ =>
    (ob (mk S95 3 0) 3 (some S95.1)).bind fun _ =>
    (chn S.1 (mk S95 3 0) [(some o), (some S95.1), v110_1]).bind fun _ =>
    (F_X4_init (mk S95 3 0) S95.1).bind fun S118_1 =>
    (rP S118_1 v110_1 9 3 (0 : Int32) (some S95.1)).bind fun S121_1 =>
    (gR S121_1 (some o) 5 8).bind fun v102_2 =>
    (aL S121_1 v102_2 9).bind fun v105_2 =>
    if v105_2 ≤ ((0 : Int32) + (1 : Int32)) then
      B_X7_init_130 fu S.1 o fu S121_1 (0 : Int32)
    else
      (gR S121_1 (some o) 5 8).bind fun v110_2 =>
      (chn S.1 S121_1 [(some o), v110_2]).bind fun _ =>
      (ob (mk S121_1 3 0) 3 (some S121_1.1)).bind fun _ =>
      (chn S.1 (mk S121_1 3 0) [(some o), (some S121_1.1), v110_2]).bind fun _ =>
      (F_X4_init (mk S121_1 3 0) S121_1.1).bind fun S118_2 =>
      (rP S118_2 v110_2 9 3 ((0 : Int32) + (1 : Int32)) (some S121_1.1)).bind fun S121_2 =>
      (gR S121_2 (some o) 5 8).bind fun v102_3 =>
      (aL S121_2 v102_3 9).bind fun v105_3 =>
      if v105_3 ≤ (((0 : Int32) + (1 : Int32)) + (1 : Int32)) then
        B_X7_init_130 fu S.1 o fu S121_2 (0 : Int32)
      else
        (gR S121_2 (some o) 5 8).bind fun v110_3 =>
        (chn S.1 S121_2 [(some o), v110_3]).bind fun _ =>
        (ob (mk S121_2 3 0) 3 (some S121_2.1)).bind fun _ =>
        (chn S.1 (mk S121_2 3 0) [(some o), (some S121_2.1), v110_3]).bind fun _ =>
        (F_X4_init (mk S121_2 3 0) S121_2.1).bind fun S118_3 =>
        (rP S118_3 v110_3 9 3 (((0 : Int32) + (1 : Int32)) + (1 : Int32)) (some S121_2.1)).bind fun S121_3 =>
        (gR S121_3 (some o) 5 8).bind fun v102_4 =>
        (aL S121_3 v102_4 9).bind fun v105_4 =>
        if v105_4 ≤ ((((0 : Int32) + (1 : Int32)) + (1 : Int32)) + (1 : Int32)) then
          B_X7_init_130 fu S.1 o fu S121_3 (0 : Int32)
        else
          (gR S121_3 (some o) 5 8).bind fun v110_4 =>
          (chn S.1 S121_3 [(some o), v110_4]).bind fun _ =>
          (ob (mk S121_3 3 0) 3 (some S121_3.1)).bind fun _ =>
          (chn S.1 (mk S121_3 3 0) [(some o), (some S121_3.1), v110_4]).bind fun _ =>
          (F_X4_init (mk S121_3 3 0) S121_3.1).bind fun S118_4 =>
          (rP S118_4 v110_4 9 3 ((((0 : Int32) + (1 : Int32)) + (1 : Int32)) + (1 : Int32)) (some S121_3.1)).bind fun S121_4 =>
          (gR S121_4 (some o) 5 8).bind fun v102_5 =>
          (aL S121_4 v102_5 9).bind fun v105_5 =>
          if v105_5 ≤ (((((0 : Int32) + (1 : Int32)) + (1 : Int32)) + (1 : Int32)) + (1 : Int32)) then
            B_X7_init_130 fu S.1 o fu S121_4 (0 : Int32)
          else
            (gR S121_4 (some o) 5 8).bind fun v110_5 =>
            (chn S.1 S121_4 [(some o), v110_5]).bind fun _ =>
            (ob (mk S121_4 3 0) 3 (some S121_4.1)).bind fun _ =>
            (chn S.1 (mk S121_4 3 0) [(some o), (some S121_4.1), v110_5]).bind fun _ =>
            (F_X4_init (mk S121_4 3 0) S121_4.1).bind fun S118_5 =>
            (rP S118_5 v110_5 9 3 (((((0 : Int32) + (1 : Int32)) + (1 : Int32)) + (1 : Int32)) + (1 : Int32)) (some S121_4.1)).bind fun S121_5 =>
            none
set_option maxRecDepth 100000 in
set_option maxHeartbeats 4000000 in
theorem w_X7_init {E : Cx} {l : Launch} {res : Hp} {ad : Nat → Nat} {fu : Nat} {S : Hp} {o : Nat} (K : Kx E cX7_init RX7 (rmd 71 58 1639)) (X : Bx E l yX7_init 2 none 58 1639 ad (QVa S.1 res)) (h : F_X7_init fu S o = some res) : J E 0 0 0 [(0, vR (some o))] [] S ad := by
  have he : ∀ k, k < S.1 → ad k = ad k := fun _ _ => rfl
  refine j_aload_n K dX7_init_0 rfl 0 rfl ?_
  refine j_oinit K dX7_init_1 z22 z23 z24 (Nat.le_of_ble_eq_true rfl) (Nat.le_of_ble_eq_true rfl) ?_
  refine j_aload_n K dX7_init_4 rfl 0 rfl ?_
  obtain ⟨u5, e5, h⟩ := bd h
  refine j_new (t := 0) K (by decide) rfl zinX0 tyX0_ok zdf_0 dX7_init_5 z25 z26 z2 ⟨Nat.le_of_ble_eq_true rfl, Nat.le_of_ble_eq_true rfl⟩ rfl e5 (fun ad5 a5 => ?_)
  have he5 := heX e5 a5 he
  refine j_dup K dX7_init_8 rfl ?_
  obtain ⟨w9, ew9, h⟩ := bd h
  have ho9 := obS ew9
  obtain ⟨u9, q9, h⟩ := bd h
  obtain ⟨S9, e9, h⟩ := bd h
  refine j_cVa (st := [vR (some S.1), vR (some o)]) K (r_IN (vs := []) (n := 0) (o := S.1) (host := RX7) K (c_X0_init e9) dX7_init_9 rfl (List.mem_of_getElem? (i := 0) rfl) z28 z2 z29 ⟨zd_X0_init, rfl, rfl, rfl, ⟨Nat.le_of_ble_eq_true rfl, Nat.le_of_ble_eq_true rfl⟩, Nat.le_of_ble_eq_true rfl, Nat.le_of_ble_eq_true rfl, Nat.le_of_ble_eq_true rfl⟩) rfl rfl q9 (fun ad9 a9 => ?_)
  have he9 := heX q9 a9 he5
  obtain ⟨S12, e12, h⟩ := bd h
  refine fpX7_10 X.2.2.2.1 K dX7_init_12 e12 ?_
  refine j_aload_n K dX7_init_15 rfl 0 rfl ?_
  obtain ⟨u16, e16, h⟩ := bd h
  refine j_new (t := 0) K (by decide) rfl zinX0 tyX0_ok zdf_0 dX7_init_16 z25 z26 z2 ⟨Nat.le_of_ble_eq_true rfl, Nat.le_of_ble_eq_true rfl⟩ rfl e16 (fun ad16 a16 => ?_)
  have he16 := heX e16 a16 he9
  refine j_dup K dX7_init_19 rfl ?_
  obtain ⟨w20, ew20, h⟩ := bd h
  have ho20 := obS ew20
  obtain ⟨u20, q20, h⟩ := bd h
  obtain ⟨S20, e20, h⟩ := bd h
  refine j_cVa (st := [vR (some S12.1), vR (some o)]) K (r_IN (vs := []) (n := 0) (o := S12.1) (host := RX7) K (c_X0_init e20) dX7_init_20 rfl (List.mem_of_getElem? (i := 0) rfl) z28 z2 z29 ⟨zd_X0_init, rfl, rfl, rfl, ⟨Nat.le_of_ble_eq_true rfl, Nat.le_of_ble_eq_true rfl⟩, Nat.le_of_ble_eq_true rfl, Nat.le_of_ble_eq_true rfl, Nat.le_of_ble_eq_true rfl⟩) rfl rfl q20 (fun ad20 a20 => ?_)
  have he20 := heX q20 a20 he16
  obtain ⟨S23, e23, h⟩ := bd h
  refine fpX7_16 X.2.2.2.1 K dX7_init_23 e23 ?_
  refine j_aload_n K dX7_init_26 rfl 0 rfl ?_
  obtain ⟨u27, e27, h⟩ := bd h
  refine j_new (t := 0) K (by decide) rfl zinX0 tyX0_ok zdf_0 dX7_init_27 z25 z26 z2 ⟨Nat.le_of_ble_eq_true rfl, Nat.le_of_ble_eq_true rfl⟩ rfl e27 (fun ad27 a27 => ?_)
  have he27 := heX e27 a27 he20
  refine j_dup K dX7_init_30 rfl ?_
  obtain ⟨w31, ew31, h⟩ := bd h
  have ho31 := obS ew31
  obtain ⟨u31, q31, h⟩ := bd h
  obtain ⟨S31, e31, h⟩ := bd h
  refine j_cVa (st := [vR (some S23.1), vR (some o)]) K (r_IN (vs := []) (n := 0) (o := S23.1) (host := RX7) K (c_X0_init e31) dX7_init_31 rfl (List.mem_of_getElem? (i := 0) rfl) z28 z2 z29 ⟨zd_X0_init, rfl, rfl, rfl, ⟨Nat.le_of_ble_eq_true rfl, Nat.le_of_ble_eq_true rfl⟩, Nat.le_of_ble_eq_true rfl, Nat.le_of_ble_eq_true rfl, Nat.le_of_ble_eq_true rfl⟩) rfl rfl q31 (fun ad31 a31 => ?_)
  have he31 := heX q31 a31 he27
  obtain ⟨S34, e34, h⟩ := bd h
  refine fpX7_19 X.2.2.2.1 K dX7_init_34 e34 ?_
  refine j_aload_n K dX7_init_37 rfl 0 rfl ?_
  refine j_iconst (v := (0 : Int32)) K dX7_init_38 (by decide) ?_
  obtain ⟨S39, e39, h⟩ := bd h
  refine fpX7_22 K dX7_init_39 rfl rfl e39 ?_
  refine j_aload_n K dX7_init_42 rfl 0 rfl ?_
  obtain ⟨u43, e43, h⟩ := bd h
  refine j_new (t := 4) K (by decide) rfl zinX6 tyX6_ok zdf_4 dX7_init_43 z89 z90 z3 ⟨Nat.le_of_ble_eq_true rfl, Nat.le_of_ble_eq_true rfl⟩ rfl e43 (fun ad43 a43 => ?_)
  have he43 := heX e43 a43 he31
  refine j_dup K dX7_init_46 rfl ?_
  obtain ⟨w47, ew47, h⟩ := bd h
  have ho47 := obS ew47
  obtain ⟨u47, q47, h⟩ := bd h
  obtain ⟨S47, e47, h⟩ := bd h
  refine j_cVa (st := [vR (some S39.1), vR (some o)]) K (r_IN (vs := []) (n := 0) (o := S39.1) (host := RX7) K (c_X6_init e47) dX7_init_47 rfl (List.mem_of_getElem? (i := 1) rfl) z92 z3 z93 ⟨zd_X6_init, rfl, rfl, rfl, ⟨Nat.le_of_ble_eq_true rfl, Nat.le_of_ble_eq_true rfl⟩, Nat.le_of_ble_eq_true rfl, Nat.le_of_ble_eq_true rfl, Nat.le_of_ble_eq_true rfl⟩) rfl rfl q47 (fun ad47 a47 => ?_)
  have he47 := heX q47 a47 he43
  obtain ⟨S50, e50, h⟩ := bd h
  refine fpX7_29 X.2.2.2.1 K dX7_init_50 e50 ?_
  refine j_aload_n K dX7_init_53 rfl 0 rfl ?_
  obtain ⟨u54, e54, h⟩ := bd h
  refine j_new (t := 2) K (by decide) rfl zinX3 tyX3_ok zdf_2 dX7_init_54 z114 z115 z4 ⟨Nat.le_of_ble_eq_true rfl, Nat.le_of_ble_eq_true rfl⟩ rfl e54 (fun ad54 a54 => ?_)
  have he54 := heX e54 a54 he47
  refine j_dup K dX7_init_57 rfl ?_
  refine j_aload_n K dX7_init_58 rfl 0 rfl ?_
  obtain ⟨v59, e59, h⟩ := bd h
  refine fgX7_29 K dX7_init_59 e59 ?_
  obtain ⟨w62, ew62, h⟩ := bd h
  have ho62 := obS ew62
  obtain ⟨u62, q62, h⟩ := bd h
  obtain ⟨S62, e62, h⟩ := bd h
  refine j_cVa (st := [vR (some S50.1), vR (some o)]) K (r_I (vs := [vR v59]) (n := 1) (o := S50.1) K (c_X3_init e62) dX7_init_62 rfl z116 z117 z4 z118 ⟨zd_X3_init, rfl, rfl, rfl, ⟨Nat.le_of_ble_eq_true rfl, Nat.le_of_ble_eq_true rfl⟩, Nat.le_of_ble_eq_true rfl, Nat.le_of_ble_eq_true rfl, Nat.le_of_ble_eq_true rfl⟩) rfl rfl q62 (fun ad62 a62 => ?_)
  have he62 := heX q62 a62 he54
  obtain ⟨S65, e65, h⟩ := bd h
  refine fpX7_38 X.2.2.2.1 K dX7_init_65 e65 ?_
  refine j_aload_n K dX7_init_68 rfl 0 rfl ?_
  refine j_bipush (v := (6 : Int32)) K dX7_init_69 (by decide) ?_
  obtain ⟨u71, e71, h⟩ := bd h
  obtain ⟨S71, g71, h⟩ := bd h
  refine j_nQ (M := 6) (t := 8) K (by simp [RX2]) dX7_init_71 z140 (by decide) ⟨Nat.le_of_ble_eq_true rfl, Nat.le_of_ble_eq_true rfl⟩ rfl e71 g71 (fun ad71 a71 => ?_)
  have he71 := heX e71 a71 he62
  obtain ⟨S74, e74, h⟩ := bd h
  refine fpX7_44 X.2.2.2.1 K dX7_init_74 e74 ?_
  refine j_aload_n K dX7_init_77 rfl 0 rfl ?_
  refine j_iconst (v := (0 : Int32)) K dX7_init_78 (by decide) ?_
  obtain ⟨S79, e79, h⟩ := bd h
  refine fpX7_48 K dX7_init_79 e79 ?_
  refine j_aload_n K dX7_init_82 rfl 0 rfl ?_
  refine j_iconst (v := (4 : Int32)) K dX7_init_83 (by decide) ?_
  obtain ⟨u84, e84, h⟩ := bd h
  obtain ⟨S84, g84, h⟩ := bd h
  refine j_nQ (M := 4) (t := 9) K (by simp [RX4]) dX7_init_84 z142 (by decide) ⟨Nat.le_of_ble_eq_true rfl, Nat.le_of_ble_eq_true rfl⟩ rfl e84 g84 (fun ad84 a84 => ?_)
  have he84 := heX e84 a84 he71
  obtain ⟨S87, e87, h⟩ := bd h
  refine fpX7_54 X.2.2.2.1 K dX7_init_87 e87 ?_
  refine j_aload_n K dX7_init_90 rfl 0 rfl ?_
  refine j_bipush (v := (10 : Int32)) K dX7_init_91 (by decide) ?_
  obtain ⟨u93, e93, h⟩ := bd h
  obtain ⟨S93, g93, h⟩ := bd h
  refine j_nA (M := 10) K dX7_init_93 z88 (by decide) ⟨Nat.le_of_ble_eq_true rfl, Nat.le_of_ble_eq_true rfl⟩ rfl e93 g93 (fun ad93 a93 => ?_)
  have he93 := heX e93 a93 he84
  obtain ⟨S95, e95, h⟩ := bd h
  refine fpX7_58 X.2.2.2.1 K dX7_init_95 e95 ?_
  refine j_iconst (v := (0 : Int32)) K dX7_init_98 (by decide) ?_
  refine j_istore_n (lv' := [(1, vI (0 : Int32)), (0, vR (some o))]) K dX7_init_99 rfl X.2.2.1 (by decide) rfl ?_
  refine j_iload_n K dX7_init_100 rfl 0 rfl ?_
  refine j_aload_n K dX7_init_101 rfl 1 rfl ?_
  obtain ⟨v102_1, e102_1, h⟩ := bd h
  refine fgX7_54 K dX7_init_102 e102_1 ?_
  obtain ⟨v105_1, e105_1, h⟩ := bd h
  refine j_aL K (by decide) dX7_init_105 e105_1 ?_
  refine j_icmp_ge K dX7_init_106 (fun c106_1 => ?_) (fun c106_1 => ?_)
  · replace h := it c106_1 h
    refine j_iconst (v := (0 : Int32)) K dX7_init_128 (by decide) ?_
    refine j_istore_n (lv' := [(1, vI (0 : Int32)), (0, vR (some o))]) K dX7_init_129 rfl X.2.2.1 (by decide) rfl ?_
    refine j_widen (Nat.le_of_ble_eq_true rfl : 44 ≤ 52) (Nat.le_of_ble_eq_true rfl : 1098 ≤ 1270) ?_
    exact j_sub [1, 0] rfl (w_X7_init_130 K X _ _ _ _ he93 h)
  · replace h := ie c106_1 h
    refine j_aload_n K dX7_init_109 rfl 1 rfl ?_
    obtain ⟨v110_1, e110_1, h⟩ := bd h
    refine fgX7_54 K dX7_init_110 e110_1 ?_
    refine j_iload_n K dX7_init_113 rfl 0 rfl ?_
    obtain ⟨u114_1, e114_1, h⟩ := bd h
    refine j_new (t := 3) K (by decide) rfl zinX4 tyX4_ok zdf_3 dX7_init_114 z142 z144 z5 ⟨Nat.le_of_ble_eq_true rfl, Nat.le_of_ble_eq_true rfl⟩ rfl e114_1 (fun ad114_1 a114_1 => ?_)
    have he114_1 := heX e114_1 a114_1 he93
    refine j_dup K dX7_init_117 rfl ?_
    obtain ⟨w118_1, ew118_1, h⟩ := bd h
    have ho118_1 := obS ew118_1
    obtain ⟨u118_1, q118_1, h⟩ := bd h
    obtain ⟨S118_1, e118_1, h⟩ := bd h
    refine j_cVa (st := [vR (some S95.1), vI (0 : Int32), vR v110_1]) K (r_IN (vs := []) (n := 0) (o := S95.1) (host := RX7) K (c_X4_init e118_1) dX7_init_118 rfl (List.mem_of_getElem? (i := 2) rfl) z146 z5 z147 ⟨zd_X4_init, rfl, rfl, rfl, ⟨Nat.le_of_ble_eq_true rfl, Nat.le_of_ble_eq_true rfl⟩, Nat.le_of_ble_eq_true rfl, Nat.le_of_ble_eq_true rfl, Nat.le_of_ble_eq_true rfl⟩) rfl rfl q118_1 (fun ad118_1 a118_1 => ?_)
    have he118_1 := heX q118_1 a118_1 he114_1
    obtain ⟨S121_1, e121_1, h⟩ := bd h
    refine j_rP K (by decide) dX7_init_121 e121_1 ?_
    refine j_iinc (q := 0) (v := ((0 : Int32) + (1 : Int32))) (lv' := [(1, vI ((0 : Int32) + (1 : Int32))), (0, vR (some o))]) K dX7_init_122 rfl rfl X.2.2.1 (by decide) rfl ?_
    refine j_goto K dX7_init_125 ?_
    refine j_iload_n K dX7_init_100 rfl 0 rfl ?_
    refine j_aload_n K dX7_init_101 rfl 1 rfl ?_
    obtain ⟨v102_2, e102_2, h⟩ := bd h
    refine fgX7_54 K dX7_init_102 e102_2 ?_
    obtain ⟨v105_2, e105_2, h⟩ := bd h
    refine j_aL K (by decide) dX7_init_105 e105_2 ?_
    refine j_icmp_ge K dX7_init_106 (fun c106_2 => ?_) (fun c106_2 => ?_)
    · replace h := it c106_2 h
      refine j_iconst (v := (0 : Int32)) K dX7_init_128 (by decide) ?_
      refine j_istore_n (lv' := [(1, vI (0 : Int32)), (0, vR (some o))]) K dX7_init_129 rfl X.2.2.1 (by decide) rfl ?_
      refine j_widen (Nat.le_of_ble_eq_true rfl : 46 ≤ 52) (Nat.le_of_ble_eq_true rfl : 1141 ≤ 1270) ?_
      exact j_sub [1, 0] rfl (w_X7_init_130 K X _ _ _ _ he118_1 h)
    · replace h := ie c106_2 h
      refine j_aload_n K dX7_init_109 rfl 1 rfl ?_
      obtain ⟨v110_2, e110_2, h⟩ := bd h
      refine fgX7_54 K dX7_init_110 e110_2 ?_
      refine j_iload_n K dX7_init_113 rfl 0 rfl ?_
      obtain ⟨u114_2, e114_2, h⟩ := bd h
      refine j_new (t := 3) K (by decide) rfl zinX4 tyX4_ok zdf_3 dX7_init_114 z142 z144 z5 ⟨Nat.le_of_ble_eq_true rfl, Nat.le_of_ble_eq_true rfl⟩ rfl e114_2 (fun ad114_2 a114_2 => ?_)
      have he114_2 := heX e114_2 a114_2 he118_1
      refine j_dup K dX7_init_117 rfl ?_
      obtain ⟨w118_2, ew118_2, h⟩ := bd h
      have ho118_2 := obS ew118_2
      obtain ⟨u118_2, q118_2, h⟩ := bd h
      obtain ⟨S118_2, e118_2, h⟩ := bd h
      refine j_cVa (st := [vR (some S121_1.1), vI ((0 : Int32) + (1 : Int32)), vR v110_2]) K (r_IN (vs := []) (n := 0) (o := S121_1.1) (host := RX7) K (c_X4_init e118_2) dX7_init_118 rfl (List.mem_of_getElem? (i := 2) rfl) z146 z5 z147 ⟨zd_X4_init, rfl, rfl, rfl, ⟨Nat.le_of_ble_eq_true rfl, Nat.le_of_ble_eq_true rfl⟩, Nat.le_of_ble_eq_true rfl, Nat.le_of_ble_eq_true rfl, Nat.le_of_ble_eq_true rfl⟩) rfl rfl q118_2 (fun ad118_2 a118_2 => ?_)
      have he118_2 := heX q118_2 a118_2 he114_2
      obtain ⟨S121_2, e121_2, h⟩ := bd h
      refine j_rP K (by decide) dX7_init_121 e121_2 ?_
      refine j_iinc (q := 0) (v := (((0 : Int32) + (1 : Int32)) + (1 : Int32))) (lv' := [(1, vI (((0 : Int32) + (1 : Int32)) + (1 : Int32))), (0, vR (some o))]) K dX7_init_122 rfl rfl X.2.2.1 (by decide) rfl ?_
      refine j_goto K dX7_init_125 ?_
      refine j_iload_n K dX7_init_100 rfl 0 rfl ?_
      refine j_aload_n K dX7_init_101 rfl 1 rfl ?_
      obtain ⟨v102_3, e102_3, h⟩ := bd h
      refine fgX7_54 K dX7_init_102 e102_3 ?_
      obtain ⟨v105_3, e105_3, h⟩ := bd h
      refine j_aL K (by decide) dX7_init_105 e105_3 ?_
      refine j_icmp_ge K dX7_init_106 (fun c106_3 => ?_) (fun c106_3 => ?_)
      · replace h := it c106_3 h
        refine j_iconst (v := (0 : Int32)) K dX7_init_128 (by decide) ?_
        refine j_istore_n (lv' := [(1, vI (0 : Int32)), (0, vR (some o))]) K dX7_init_129 rfl X.2.2.1 (by decide) rfl ?_
        refine j_widen (Nat.le_of_ble_eq_true rfl : 48 ≤ 52) (Nat.le_of_ble_eq_true rfl : 1184 ≤ 1270) ?_
        exact j_sub [1, 0] rfl (w_X7_init_130 K X _ _ _ _ he118_2 h)
      · replace h := ie c106_3 h
        refine j_aload_n K dX7_init_109 rfl 1 rfl ?_
        obtain ⟨v110_3, e110_3, h⟩ := bd h
        refine fgX7_54 K dX7_init_110 e110_3 ?_
        refine j_iload_n K dX7_init_113 rfl 0 rfl ?_
        obtain ⟨u114_3, e114_3, h⟩ := bd h
        refine j_new (t := 3) K (by decide) rfl zinX4 tyX4_ok zdf_3 dX7_init_114 z142 z144 z5 ⟨Nat.le_of_ble_eq_true rfl, Nat.le_of_ble_eq_true rfl⟩ rfl e114_3 (fun ad114_3 a114_3 => ?_)
        have he114_3 := heX e114_3 a114_3 he118_2
        refine j_dup K dX7_init_117 rfl ?_
        obtain ⟨w118_3, ew118_3, h⟩ := bd h
        have ho118_3 := obS ew118_3
        obtain ⟨u118_3, q118_3, h⟩ := bd h
        obtain ⟨S118_3, e118_3, h⟩ := bd h
        refine j_cVa (st := [vR (some S121_2.1), vI (((0 : Int32) + (1 : Int32)) + (1 : Int32)), vR v110_3]) K (r_IN (vs := []) (n := 0) (o := S121_2.1) (host := RX7) K (c_X4_init e118_3) dX7_init_118 rfl (List.mem_of_getElem? (i := 2) rfl) z146 z5 z147 ⟨zd_X4_init, rfl, rfl, rfl, ⟨Nat.le_of_ble_eq_true rfl, Nat.le_of_ble_eq_true rfl⟩, Nat.le_of_ble_eq_true rfl, Nat.le_of_ble_eq_true rfl, Nat.le_of_ble_eq_true rfl⟩) rfl rfl q118_3 (fun ad118_3 a118_3 => ?_)
        have he118_3 := heX q118_3 a118_3 he114_3
        obtain ⟨S121_3, e121_3, h⟩ := bd h
        refine j_rP K (by decide) dX7_init_121 e121_3 ?_
        refine j_iinc (q := 0) (v := ((((0 : Int32) + (1 : Int32)) + (1 : Int32)) + (1 : Int32))) (lv' := [(1, vI ((((0 : Int32) + (1 : Int32)) + (1 : Int32)) + (1 : Int32))), (0, vR (some o))]) K dX7_init_122 rfl rfl X.2.2.1 (by decide) rfl ?_
        refine j_goto K dX7_init_125 ?_
        refine j_iload_n K dX7_init_100 rfl 0 rfl ?_
        refine j_aload_n K dX7_init_101 rfl 1 rfl ?_
        obtain ⟨v102_4, e102_4, h⟩ := bd h
        refine fgX7_54 K dX7_init_102 e102_4 ?_
        obtain ⟨v105_4, e105_4, h⟩ := bd h
        refine j_aL K (by decide) dX7_init_105 e105_4 ?_
        refine j_icmp_ge K dX7_init_106 (fun c106_4 => ?_) (fun c106_4 => ?_)
        · replace h := it c106_4 h
          refine j_iconst (v := (0 : Int32)) K dX7_init_128 (by decide) ?_
          refine j_istore_n (lv' := [(1, vI (0 : Int32)), (0, vR (some o))]) K dX7_init_129 rfl X.2.2.1 (by decide) rfl ?_
          refine j_widen (Nat.le_of_ble_eq_true rfl : 50 ≤ 52) (Nat.le_of_ble_eq_true rfl : 1227 ≤ 1270) ?_
          exact j_sub [1, 0] rfl (w_X7_init_130 K X _ _ _ _ he118_3 h)
        · replace h := ie c106_4 h
          refine j_aload_n K dX7_init_109 rfl 1 rfl ?_
          obtain ⟨v110_4, e110_4, h⟩ := bd h
          refine fgX7_54 K dX7_init_110 e110_4 ?_
          refine j_iload_n K dX7_init_113 rfl 0 rfl ?_
          obtain ⟨u114_4, e114_4, h⟩ := bd h
          refine j_new (t := 3) K (by decide) rfl zinX4 tyX4_ok zdf_3 dX7_init_114 z142 z144 z5 ⟨Nat.le_of_ble_eq_true rfl, Nat.le_of_ble_eq_true rfl⟩ rfl e114_4 (fun ad114_4 a114_4 => ?_)
          have he114_4 := heX e114_4 a114_4 he118_3
          refine j_dup K dX7_init_117 rfl ?_
          obtain ⟨w118_4, ew118_4, h⟩ := bd h
          have ho118_4 := obS ew118_4
          obtain ⟨u118_4, q118_4, h⟩ := bd h
          obtain ⟨S118_4, e118_4, h⟩ := bd h
          refine j_cVa (st := [vR (some S121_3.1), vI ((((0 : Int32) + (1 : Int32)) + (1 : Int32)) + (1 : Int32)), vR v110_4]) K (r_IN (vs := []) (n := 0) (o := S121_3.1) (host := RX7) K (c_X4_init e118_4) dX7_init_118 rfl (List.mem_of_getElem? (i := 2) rfl) z146 z5 z147 ⟨zd_X4_init, rfl, rfl, rfl, ⟨Nat.le_of_ble_eq_true rfl, Nat.le_of_ble_eq_true rfl⟩, Nat.le_of_ble_eq_true rfl, Nat.le_of_ble_eq_true rfl, Nat.le_of_ble_eq_true rfl⟩) rfl rfl q118_4 (fun ad118_4 a118_4 => ?_)
          have he118_4 := heX q118_4 a118_4 he114_4
          obtain ⟨S121_4, e121_4, h⟩ := bd h
          refine j_rP K (by decide) dX7_init_121 e121_4 ?_
          refine j_iinc (q := 0) (v := (((((0 : Int32) + (1 : Int32)) + (1 : Int32)) + (1 : Int32)) + (1 : Int32))) (lv' := [(1, vI (((((0 : Int32) + (1 : Int32)) + (1 : Int32)) + (1 : Int32)) + (1 : Int32))), (0, vR (some o))]) K dX7_init_122 rfl rfl X.2.2.1 (by decide) rfl ?_
          refine j_goto K dX7_init_125 ?_
          refine j_iload_n K dX7_init_100 rfl 0 rfl ?_
          refine j_aload_n K dX7_init_101 rfl 1 rfl ?_
          obtain ⟨v102_5, e102_5, h⟩ := bd h
          refine fgX7_54 K dX7_init_102 e102_5 ?_
          obtain ⟨v105_5, e105_5, h⟩ := bd h
          refine j_aL K (by decide) dX7_init_105 e105_5 ?_
          refine j_icmp_ge K dX7_init_106 (fun c106_5 => ?_) (fun c106_5 => ?_)
          · replace h := it c106_5 h
            refine j_iconst (v := (0 : Int32)) K dX7_init_128 (by decide) ?_
            refine j_istore_n (lv' := [(1, vI (0 : Int32)), (0, vR (some o))]) K dX7_init_129 rfl X.2.2.1 (by decide) rfl ?_
            exact j_sub [1, 0] rfl (w_X7_init_130 K X _ _ _ _ he118_4 h)
          · replace h := ie c106_5 h
            refine j_aload_n K dX7_init_109 rfl 1 rfl ?_
            obtain ⟨v110_5, e110_5, h⟩ := bd h
            refine fgX7_54 K dX7_init_110 e110_5 ?_
            refine j_iload_n K dX7_init_113 rfl 0 rfl ?_
            obtain ⟨u114_5, e114_5, h⟩ := bd h
            refine j_new (t := 3) K (by decide) rfl zinX4 tyX4_ok zdf_3 dX7_init_114 z142 z144 z5 ⟨Nat.le_of_ble_eq_true rfl, Nat.le_of_ble_eq_true rfl⟩ rfl e114_5 (fun ad114_5 a114_5 => ?_)
            have he114_5 := heX e114_5 a114_5 he118_4
            refine j_dup K dX7_init_117 rfl ?_
            obtain ⟨w118_5, ew118_5, h⟩ := bd h
            have ho118_5 := obS ew118_5
            obtain ⟨u118_5, q118_5, h⟩ := bd h
            obtain ⟨S118_5, e118_5, h⟩ := bd h
            refine j_cVa (st := [vR (some S121_4.1), vI (((((0 : Int32) + (1 : Int32)) + (1 : Int32)) + (1 : Int32)) + (1 : Int32)), vR v110_5]) K (r_IN (vs := []) (n := 0) (o := S121_4.1) (host := RX7) K (c_X4_init e118_5) dX7_init_118 rfl (List.mem_of_getElem? (i := 2) rfl) z146 z5 z147 ⟨zd_X4_init, rfl, rfl, rfl, ⟨Nat.le_of_ble_eq_true rfl, Nat.le_of_ble_eq_true rfl⟩, Nat.le_of_ble_eq_true rfl, Nat.le_of_ble_eq_true rfl, Nat.le_of_ble_eq_true rfl⟩) rfl rfl q118_5 (fun ad118_5 a118_5 => ?_)
            have he118_5 := heX q118_5 a118_5 he114_5
            obtain ⟨S121_5, e121_5, h⟩ := bd h
            refine j_rP K (by decide) dX7_init_121 e121_5 ?_
            refine j_iinc (q := 0) (v := ((((((0 : Int32) + (1 : Int32)) + (1 : Int32)) + (1 : Int32)) + (1 : Int32)) + (1 : Int32))) (lv' := [(1, vI ((((((0 : Int32) + (1 : Int32)) + (1 : Int32)) + (1 : Int32)) + (1 : Int32)) + (1 : Int32))), (0, vR (some o))]) K dX7_init_122 rfl rfl X.2.2.1 (by decide) rfl ?_
            refine j_goto K dX7_init_125 ?_
            cases h
theorem c_X7_init {l : Launch} {fu : Nat} {S : Hp} {o : Nat} {res : Hp} (h : F_X7_init fu S o = some res) : Ct l yX7_init cX7_init 2 none (rmd 71 58 1639) 58 1639 [vR (some o)] S (QVa S.1 res) :=
  z_entry (by decide +kernel) (Nat.le_of_ble_eq_true rfl) (fun E ad K X => w_X7_init K X h)

theorem dX7_count_0 : decode cX7_count 0 = .ok (.iload_n 1, 1) ∧ 0 + 1 = 1 := ⟨by decide +kernel, rfl⟩
theorem dX7_count_1 : decode cX7_count 1 = .ok (.tableswitch 84 0 5 #[39, 47, 55, 63, 68, 76], 39) := by decide +kernel
theorem dX7_count_40 : decode cX7_count 40 = .ok (.aload_n 0, 1) ∧ 40 + 1 = 41 := ⟨by decide +kernel, rfl⟩
theorem dX7_count_41 : decode cX7_count 41 = .ok (.getfield 10, 3) ∧ 41 + 3 = 44 := ⟨by decide +kernel, rfl⟩
theorem dX7_count_44 : decode cX7_count 44 = .ok (.getfield 90, 3) ∧ 44 + 3 = 47 := ⟨by decide +kernel, rfl⟩
theorem dX7_count_47 : decode cX7_count 47 = .ok (.ireturn, 1) := by decide +kernel
theorem dX7_count_48 : decode cX7_count 48 = .ok (.aload_n 0, 1) ∧ 48 + 1 = 49 := ⟨by decide +kernel, rfl⟩
theorem dX7_count_49 : decode cX7_count 49 = .ok (.getfield 10, 3) ∧ 49 + 3 = 52 := ⟨by decide +kernel, rfl⟩
theorem dX7_count_52 : decode cX7_count 52 = .ok (.getfield 93, 3) ∧ 52 + 3 = 55 := ⟨by decide +kernel, rfl⟩
theorem dX7_count_55 : decode cX7_count 55 = .ok (.ireturn, 1) := by decide +kernel
theorem dX7_count_56 : decode cX7_count 56 = .ok (.aload_n 0, 1) ∧ 56 + 1 = 57 := ⟨by decide +kernel, rfl⟩
theorem dX7_count_57 : decode cX7_count 57 = .ok (.getfield 10, 3) ∧ 57 + 3 = 60 := ⟨by decide +kernel, rfl⟩
theorem dX7_count_60 : decode cX7_count 60 = .ok (.getfield 96, 3) ∧ 60 + 3 = 63 := ⟨by decide +kernel, rfl⟩
theorem dX7_count_63 : decode cX7_count 63 = .ok (.ireturn, 1) := by decide +kernel
theorem dX7_count_64 : decode cX7_count 64 = .ok (.aload_n 0, 1) ∧ 64 + 1 = 65 := ⟨by decide +kernel, rfl⟩
theorem dX7_count_65 : decode cX7_count 65 = .ok (.getfield 48, 3) ∧ 65 + 3 = 68 := ⟨by decide +kernel, rfl⟩
theorem dX7_count_68 : decode cX7_count 68 = .ok (.ireturn, 1) := by decide +kernel
theorem dX7_count_69 : decode cX7_count 69 = .ok (.aload_n 0, 1) ∧ 69 + 1 = 70 := ⟨by decide +kernel, rfl⟩
theorem dX7_count_70 : decode cX7_count 70 = .ok (.getfield 10, 3) ∧ 70 + 3 = 73 := ⟨by decide +kernel, rfl⟩
theorem dX7_count_73 : decode cX7_count 73 = .ok (.getfield 99, 3) ∧ 73 + 3 = 76 := ⟨by decide +kernel, rfl⟩
theorem dX7_count_76 : decode cX7_count 76 = .ok (.ireturn, 1) := by decide +kernel
theorem dX7_count_77 : decode cX7_count 77 = .ok (.aload_n 0, 1) ∧ 77 + 1 = 78 := ⟨by decide +kernel, rfl⟩
theorem dX7_count_78 : decode cX7_count 78 = .ok (.getfield 29, 3) ∧ 78 + 3 = 81 := ⟨by decide +kernel, rfl⟩
theorem dX7_count_81 : decode cX7_count 81 = .ok (.getfield 102, 3) ∧ 81 + 3 = 84 := ⟨by decide +kernel, rfl⟩
theorem dX7_count_84 : decode cX7_count 84 = .ok (.ireturn, 1) := by decide +kernel
theorem dX7_count_85 : decode cX7_count 85 = .ok (.bipush (-2), 2) ∧ 85 + 2 = 87 := ⟨by decide +kernel, rfl⟩
theorem dX7_count_87 : decode cX7_count 87 = .ok (.ireturn, 1) := by decide +kernel
def F_X7_count (S : Hp) (o : Nat) (x1 : Int32) : Option (Int32 × Hp) :=
  if x1 = 0 then
    (gR S (some o) 5 0).bind fun v41 =>
    (gI S v41 0 0).bind fun v44 =>
    some (v44, S)
  else
  if x1 = 1 then
    (gR S (some o) 5 0).bind fun v49 =>
    (gI S v49 0 5).bind fun v52 =>
    some (v52, S)
  else
  if x1 = 2 then
    (gR S (some o) 5 0).bind fun v57 =>
    (gI S v57 0 9).bind fun v60 =>
    some (v60, S)
  else
  if x1 = 3 then
    (gI S (some o) 5 7).bind fun v65 =>
    some (v65, S)
  else
  if x1 = 4 then
    (gR S (some o) 5 0).bind fun v70 =>
    (gI S v70 0 10).bind fun v73 =>
    some (v73, S)
  else
  if x1 = 5 then
    (gR S (some o) 5 4).bind fun v78 =>
    (gI S v78 4 1).bind fun v81 =>
    some (v81, S)
  else
  some ((-2 : Int32), S)
set_option maxRecDepth 100000 in
set_option maxHeartbeats 4000000 in
theorem w_X7_count {E : Cx} {l : Launch} {res : Int32 × Hp} {ad : Nat → Nat} {S : Hp} {o : Nat} {x1 : Int32} (K : Kx E cX7_count RX7 (rmd 0 0 0)) (X : Bx E l yX7_count 2 (some .int) 0 0 ad (QI res)) (h : F_X7_count S o x1 = some res) : J E 0 0 0 [(0, vR (some o)), (1, vI x1)] [] S ad := by
  refine j_iload_n K dX7_count_0 rfl 1 rfl ?_
  by_cases c1_0 : x1 = 0
  · replace h := it c1_0 h
    have t1 : x1.toInt = 0 := by rw [c1_0]; rfl
    refine j_tin (tgt := 40) K dX7_count_1 (by rw [t1]; decide) (by rw [t1]; decide) (by rw [t1]; rfl) (by decide) ?_
    refine j_aload_n K dX7_count_40 rfl 0 rfl ?_
    obtain ⟨v41, e41, h⟩ := bd h
    refine fgX7_10 K dX7_count_41 e41 ?_
    obtain ⟨v44, e44, h⟩ := bd h
    refine fgX7_90 K dX7_count_44 e44 ?_
    exact j_iret K X dX7_count_47 h
  replace h := ie c1_0 h
  by_cases c1_1 : x1 = 1
  · replace h := it c1_1 h
    have t1 : x1.toInt = 1 := by rw [c1_1]; rfl
    refine j_tin (tgt := 48) K dX7_count_1 (by rw [t1]; decide) (by rw [t1]; decide) (by rw [t1]; rfl) (by decide) ?_
    refine j_aload_n K dX7_count_48 rfl 0 rfl ?_
    obtain ⟨v49, e49, h⟩ := bd h
    refine fgX7_10 K dX7_count_49 e49 ?_
    obtain ⟨v52, e52, h⟩ := bd h
    refine fgX7_93 K dX7_count_52 e52 ?_
    exact j_iret K X dX7_count_55 h
  replace h := ie c1_1 h
  by_cases c1_2 : x1 = 2
  · replace h := it c1_2 h
    have t1 : x1.toInt = 2 := by rw [c1_2]; rfl
    refine j_tin (tgt := 56) K dX7_count_1 (by rw [t1]; decide) (by rw [t1]; decide) (by rw [t1]; rfl) (by decide) ?_
    refine j_aload_n K dX7_count_56 rfl 0 rfl ?_
    obtain ⟨v57, e57, h⟩ := bd h
    refine fgX7_10 K dX7_count_57 e57 ?_
    obtain ⟨v60, e60, h⟩ := bd h
    refine fgX7_96 K dX7_count_60 e60 ?_
    exact j_iret K X dX7_count_63 h
  replace h := ie c1_2 h
  by_cases c1_3 : x1 = 3
  · replace h := it c1_3 h
    have t1 : x1.toInt = 3 := by rw [c1_3]; rfl
    refine j_tin (tgt := 64) K dX7_count_1 (by rw [t1]; decide) (by rw [t1]; decide) (by rw [t1]; rfl) (by decide) ?_
    refine j_aload_n K dX7_count_64 rfl 0 rfl ?_
    obtain ⟨v65, e65, h⟩ := bd h
    refine fgX7_48 K dX7_count_65 e65 ?_
    exact j_iret K X dX7_count_68 h
  replace h := ie c1_3 h
  by_cases c1_4 : x1 = 4
  · replace h := it c1_4 h
    have t1 : x1.toInt = 4 := by rw [c1_4]; rfl
    refine j_tin (tgt := 69) K dX7_count_1 (by rw [t1]; decide) (by rw [t1]; decide) (by rw [t1]; rfl) (by decide) ?_
    refine j_aload_n K dX7_count_69 rfl 0 rfl ?_
    obtain ⟨v70, e70, h⟩ := bd h
    refine fgX7_10 K dX7_count_70 e70 ?_
    obtain ⟨v73, e73, h⟩ := bd h
    refine fgX7_99 K dX7_count_73 e73 ?_
    exact j_iret K X dX7_count_76 h
  replace h := ie c1_4 h
  by_cases c1_5 : x1 = 5
  · replace h := it c1_5 h
    have t1 : x1.toInt = 5 := by rw [c1_5]; rfl
    refine j_tin (tgt := 77) K dX7_count_1 (by rw [t1]; decide) (by rw [t1]; decide) (by rw [t1]; rfl) (by decide) ?_
    refine j_aload_n K dX7_count_77 rfl 0 rfl ?_
    obtain ⟨v78, e78, h⟩ := bd h
    refine fgX7_29 K dX7_count_78 e78 ?_
    obtain ⟨v81, e81, h⟩ := bd h
    refine fgX7_102 K dX7_count_81 e81 ?_
    exact j_iret K X dX7_count_84 h
  replace h := ie c1_5 h
  have t1_0 : x1.toInt ≠ 0 := swn rfl c1_0
  have t1_1 : x1.toInt ≠ 1 := swn rfl c1_1
  have t1_2 : x1.toInt ≠ 2 := swn rfl c1_2
  have t1_3 : x1.toInt ≠ 3 := swn rfl c1_3
  have t1_4 : x1.toInt ≠ 4 := swn rfl c1_4
  have t1_5 : x1.toInt ≠ 5 := swn rfl c1_5
  refine j_tout (tgt := 85) K dX7_count_1 (by omega) (by decide) ?_
  refine j_bipush (v := (-2 : Int32)) K dX7_count_85 (by decide) ?_
  exact j_iret K X dX7_count_87 h
theorem c_X7_count {l : Launch} {S : Hp} {o : Nat} {x1 : Int32} {res : Int32 × Hp} (h : F_X7_count S o x1 = some res) : Ct l yX7_count cX7_count 2 (some .int) (rmd 0 0 0) 0 0 [vR (some o), vI x1] S (QI res) :=
  z_entry (by decide +kernel) (Nat.le_of_ble_eq_true rfl) (fun E ad K X => w_X7_count K X h)

theorem dX7_wrong_0 : decode cX7_wrong 0 = .ok (.iconst 1, 1) ∧ 0 + 1 = 1 := ⟨by decide +kernel, rfl⟩
theorem dX7_wrong_1 : decode cX7_wrong 1 = .ok (.aload_n 0, 1) ∧ 1 + 1 = 2 := ⟨by decide +kernel, rfl⟩
theorem dX7_wrong_2 : decode cX7_wrong 2 = .ok (.getfield 10, 3) ∧ 2 + 3 = 5 := ⟨by decide +kernel, rfl⟩
theorem dX7_wrong_5 : decode cX7_wrong 5 = .ok (.getfield 90, 3) ∧ 5 + 3 = 8 := ⟨by decide +kernel, rfl⟩
theorem dX7_wrong_8 : decode cX7_wrong 8 = .ok (.ishl, 1) ∧ 8 + 1 = 9 := ⟨by decide +kernel, rfl⟩
theorem dX7_wrong_9 : decode cX7_wrong 9 = .ok (.iconst 1, 1) ∧ 9 + 1 = 10 := ⟨by decide +kernel, rfl⟩
theorem dX7_wrong_10 : decode cX7_wrong 10 = .ok (.isub, 1) ∧ 10 + 1 = 11 := ⟨by decide +kernel, rfl⟩
theorem dX7_wrong_11 : decode cX7_wrong 11 = .ok (.istore 4, 2) ∧ 11 + 2 = 13 := ⟨by decide +kernel, rfl⟩
theorem dX7_wrong_13 : decode cX7_wrong 13 = .ok (.iload_n 1, 1) ∧ 13 + 1 = 14 := ⟨by decide +kernel, rfl⟩
theorem dX7_wrong_14 : decode cX7_wrong 14 = .ok (.ifCond .eq 25, 3) ∧ 14 + 3 = 17 ∧ ((14 : Nat) : Int) + (25) = ((39 : Nat) : Int) := ⟨by decide +kernel, rfl, by decide⟩
theorem dX7_wrong_17 : decode cX7_wrong 17 = .ok (.iload_n 1, 1) ∧ 17 + 1 = 18 := ⟨by decide +kernel, rfl⟩
theorem dX7_wrong_18 : decode cX7_wrong 18 = .ok (.iload 4, 2) ∧ 18 + 2 = 20 := ⟨by decide +kernel, rfl⟩
theorem dX7_wrong_20 : decode cX7_wrong 20 = .ok (.iconst (-1), 1) ∧ 20 + 1 = 21 := ⟨by decide +kernel, rfl⟩
theorem dX7_wrong_21 : decode cX7_wrong 21 = .ok (.ixor, 1) ∧ 21 + 1 = 22 := ⟨by decide +kernel, rfl⟩
theorem dX7_wrong_22 : decode cX7_wrong 22 = .ok (.iand, 1) ∧ 22 + 1 = 23 := ⟨by decide +kernel, rfl⟩
theorem dX7_wrong_23 : decode cX7_wrong 23 = .ok (.ifCond .ne 16, 3) ∧ 23 + 3 = 26 ∧ ((23 : Nat) : Int) + (16) = ((39 : Nat) : Int) := ⟨by decide +kernel, rfl, by decide⟩
theorem dX7_wrong_26 : decode cX7_wrong 26 = .ok (.iload_n 3, 1) ∧ 26 + 1 = 27 := ⟨by decide +kernel, rfl⟩
theorem dX7_wrong_27 : decode cX7_wrong 27 = .ok (.iload 4, 2) ∧ 27 + 2 = 29 := ⟨by decide +kernel, rfl⟩
theorem dX7_wrong_29 : decode cX7_wrong 29 = .ok (.iconst (-1), 1) ∧ 29 + 1 = 30 := ⟨by decide +kernel, rfl⟩
theorem dX7_wrong_30 : decode cX7_wrong 30 = .ok (.ixor, 1) ∧ 30 + 1 = 31 := ⟨by decide +kernel, rfl⟩
theorem dX7_wrong_31 : decode cX7_wrong 31 = .ok (.iand, 1) ∧ 31 + 1 = 32 := ⟨by decide +kernel, rfl⟩
theorem dX7_wrong_32 : decode cX7_wrong 32 = .ok (.ifCond .ne 7, 3) ∧ 32 + 3 = 35 ∧ ((32 : Nat) : Int) + (7) = ((39 : Nat) : Int) := ⟨by decide +kernel, rfl, by decide⟩
theorem dX7_wrong_35 : decode cX7_wrong 35 = .ok (.iconst 1, 1) ∧ 35 + 1 = 36 := ⟨by decide +kernel, rfl⟩
theorem dX7_wrong_36 : decode cX7_wrong 36 = .ok (.goto 4, 3) ∧ ((36 : Nat) : Int) + (4) = ((40 : Nat) : Int) := ⟨by decide +kernel, by decide⟩
theorem dX7_wrong_39 : decode cX7_wrong 39 = .ok (.iconst 0, 1) ∧ 39 + 1 = 40 := ⟨by decide +kernel, rfl⟩
theorem dX7_wrong_40 : decode cX7_wrong 40 = .ok (.istore 5, 2) ∧ 40 + 2 = 42 := ⟨by decide +kernel, rfl⟩
theorem dX7_wrong_42 : decode cX7_wrong 42 = .ok (.iload 5, 2) ∧ 42 + 2 = 44 := ⟨by decide +kernel, rfl⟩
theorem dX7_wrong_44 : decode cX7_wrong 44 = .ok (.ifCond .eq 20, 3) ∧ 44 + 3 = 47 ∧ ((44 : Nat) : Int) + (20) = ((64 : Nat) : Int) := ⟨by decide +kernel, rfl, by decide⟩
theorem dX7_wrong_47 : decode cX7_wrong 47 = .ok (.iload_n 1, 1) ∧ 47 + 1 = 48 := ⟨by decide +kernel, rfl⟩
theorem dX7_wrong_48 : decode cX7_wrong 48 = .ok (.iload_n 3, 1) ∧ 48 + 1 = 49 := ⟨by decide +kernel, rfl⟩
theorem dX7_wrong_49 : decode cX7_wrong 49 = .ok (.iand, 1) ∧ 49 + 1 = 50 := ⟨by decide +kernel, rfl⟩
theorem dX7_wrong_50 : decode cX7_wrong 50 = .ok (.ifCond .ne 14, 3) ∧ 50 + 3 = 53 ∧ ((50 : Nat) : Int) + (14) = ((64 : Nat) : Int) := ⟨by decide +kernel, rfl, by decide⟩
theorem dX7_wrong_53 : decode cX7_wrong 53 = .ok (.iload_n 2, 1) ∧ 53 + 1 = 54 := ⟨by decide +kernel, rfl⟩
theorem dX7_wrong_54 : decode cX7_wrong 54 = .ok (.iconst 1, 1) ∧ 54 + 1 = 55 := ⟨by decide +kernel, rfl⟩
theorem dX7_wrong_55 : decode cX7_wrong 55 = .ok (.if_icmp .lt 9, 3) ∧ 55 + 3 = 58 ∧ ((55 : Nat) : Int) + (9) = ((64 : Nat) : Int) := ⟨by decide +kernel, rfl, by decide⟩
theorem dX7_wrong_58 : decode cX7_wrong 58 = .ok (.iload_n 2, 1) ∧ 58 + 1 = 59 := ⟨by decide +kernel, rfl⟩
theorem dX7_wrong_59 : decode cX7_wrong 59 = .ok (.bipush 9, 2) ∧ 59 + 2 = 61 := ⟨by decide +kernel, rfl⟩
theorem dX7_wrong_61 : decode cX7_wrong 61 = .ok (.if_icmp .le 6, 3) ∧ 61 + 3 = 64 ∧ ((61 : Nat) : Int) + (6) = ((67 : Nat) : Int) := ⟨by decide +kernel, rfl, by decide⟩
theorem dX7_wrong_64 : decode cX7_wrong 64 = .ok (.bipush (-2), 2) ∧ 64 + 2 = 66 := ⟨by decide +kernel, rfl⟩
theorem dX7_wrong_66 : decode cX7_wrong 66 = .ok (.ireturn, 1) := by decide +kernel
theorem dX7_wrong_67 : decode cX7_wrong 67 = .ok (.aload_n 0, 1) ∧ 67 + 1 = 68 := ⟨by decide +kernel, rfl⟩
theorem dX7_wrong_68 : decode cX7_wrong 68 = .ok (.getfield 10, 3) ∧ 68 + 3 = 71 := ⟨by decide +kernel, rfl⟩
theorem dX7_wrong_71 : decode cX7_wrong 71 = .ok (.iload_n 1, 1) ∧ 71 + 1 = 72 := ⟨by decide +kernel, rfl⟩
theorem dX7_wrong_72 : decode cX7_wrong 72 = .ok (.iload_n 2, 1) ∧ 72 + 1 = 73 := ⟨by decide +kernel, rfl⟩
theorem dX7_wrong_73 : decode cX7_wrong 73 = .ok (.iload_n 3, 1) ∧ 73 + 1 = 74 := ⟨by decide +kernel, rfl⟩
theorem dX7_wrong_74 : decode cX7_wrong 74 = .ok (.invokevirtual 105, 3) := by decide +kernel
theorem dX7_wrong_77 : decode cX7_wrong 77 = .ok (.ifCond .eq 15, 3) ∧ 77 + 3 = 80 ∧ ((77 : Nat) : Int) + (15) = ((92 : Nat) : Int) := ⟨by decide +kernel, rfl, by decide⟩
theorem dX7_wrong_80 : decode cX7_wrong 80 = .ok (.aload_n 0, 1) ∧ 80 + 1 = 81 := ⟨by decide +kernel, rfl⟩
theorem dX7_wrong_81 : decode cX7_wrong 81 = .ok (.getfield 10, 3) ∧ 81 + 3 = 84 := ⟨by decide +kernel, rfl⟩
theorem dX7_wrong_84 : decode cX7_wrong 84 = .ok (.getfield 93, 3) ∧ 84 + 3 = 87 := ⟨by decide +kernel, rfl⟩
theorem dX7_wrong_87 : decode cX7_wrong 87 = .ok (.iconst 1, 1) ∧ 87 + 1 = 88 := ⟨by decide +kernel, rfl⟩
theorem dX7_wrong_88 : decode cX7_wrong 88 = .ok (.isub, 1) ∧ 88 + 1 = 89 := ⟨by decide +kernel, rfl⟩
theorem dX7_wrong_89 : decode cX7_wrong 89 = .ok (.goto 5, 3) ∧ ((89 : Nat) : Int) + (5) = ((94 : Nat) : Int) := ⟨by decide +kernel, by decide⟩
theorem dX7_wrong_92 : decode cX7_wrong 92 = .ok (.bipush (-4), 2) ∧ 92 + 2 = 94 := ⟨by decide +kernel, rfl⟩
theorem dX7_wrong_94 : decode cX7_wrong 94 = .ok (.ireturn, 1) := by decide +kernel
def B_X7_wrong_64 (o : Nat) (S : Hp) : Option (Int32 × Hp) :=
  some ((-2 : Int32), S)
set_option maxRecDepth 100000 in
set_option maxHeartbeats 4000000 in
theorem w_X7_wrong_64 {E : Cx} {l : Launch} {res : Int32 × Hp} {ad : Nat → Nat} {o : Nat} {S : Hp} (K : Kx E cX7_wrong RX7 (rmd 2 0 0)) (X : Bx E l yX7_wrong 6 (some .int) 0 0 ad (QI res)) (h : B_X7_wrong_64 o S = some res) : J E 0 0 64 [] [] S ad := by
  refine j_bipush (v := (-2 : Int32)) K dX7_wrong_64 (by decide) ?_
  exact j_iret K X dX7_wrong_66 h
def B_X7_wrong_94 (o : Nat) (S : Hp) (s0 : Int32) : Option (Int32 × Hp) :=
  some (s0, S)
set_option maxRecDepth 100000 in
set_option maxHeartbeats 4000000 in
theorem w_X7_wrong_94 {E : Cx} {l : Launch} {res : Int32 × Hp} {ad : Nat → Nat} {o : Nat} {S : Hp} {s0 : Int32} (K : Kx E cX7_wrong RX7 (rmd 2 0 0)) (X : Bx E l yX7_wrong 6 (some .int) 0 0 ad (QI res)) (h : B_X7_wrong_94 o S s0 = some res) : J E 0 0 94 [] [vI s0] S ad := by
  exact j_iret K X dX7_wrong_94 h
def B_X7_wrong_40 (o : Nat) (S : Hp) (x1 : Int32) (x2 : Int32) (x3 : Int32) (s0 : Int32) : Option (Int32 × Hp) :=
  if s0 = 0 then
    B_X7_wrong_64 o S
  else
    if (x1 &&& x3) = 0 then
      if x2 < (1 : Int32) then
        B_X7_wrong_64 o S
      else
        if x2 ≤ (9 : Int32) then
          (gR S (some o) 5 0).bind fun v68 =>
          (ob S 0 v68).bind fun o74 =>
          b2 (F_X0_add S o74 x1 x2 x3) fun v74 S74 =>
          if v74 = 0 then
            B_X7_wrong_94 o S74 (-4 : Int32)
          else
            (gR S74 (some o) 5 0).bind fun v81 =>
            (gI S74 v81 0 5).bind fun v84 =>
            B_X7_wrong_94 o S74 (v84 - (1 : Int32))
        else
          B_X7_wrong_64 o S
    else
      B_X7_wrong_64 o S
set_option maxRecDepth 100000 in
set_option maxHeartbeats 4000000 in
theorem w_X7_wrong_40 {E : Cx} {l : Launch} {res : Int32 × Hp} {ad : Nat → Nat} {o : Nat} {S : Hp} {x1 : Int32} {x2 : Int32} {x3 : Int32} {s0 : Int32} (K : Kx E cX7_wrong RX7 (rmd 2 0 0)) (X : Bx E l yX7_wrong 6 (some .int) 0 0 ad (QI res)) (h : B_X7_wrong_40 o S x1 x2 x3 s0 = some res) : J E 0 0 40 [(0, vR (some o)), (1, vI x1), (2, vI x2), (3, vI x3)] [vI s0] S ad := by
  refine j_istore (lv' := [(5, vI s0), (0, vR (some o)), (1, vI x1), (2, vI x2), (3, vI x3)]) K dX7_wrong_40 X.2.2.1 (by decide) rfl ?_
  refine j_iload K dX7_wrong_42 0 rfl ?_
  refine j_if_eq K dX7_wrong_44 (fun c44 => ?_) (fun c44 => ?_)
  · replace h := it c44 h
    exact j_sub [] rfl (w_X7_wrong_64 K X h)
  · replace h := ie c44 h
    refine j_iload_n K dX7_wrong_47 rfl 2 rfl ?_
    refine j_iload_n K dX7_wrong_48 rfl 4 rfl ?_
    refine j_iand K dX7_wrong_49 ?_
    refine j_if_ne K dX7_wrong_50 (fun c50 => ?_) (fun c50 => ?_)
    · replace h := ie c50 h
      exact j_sub [] rfl (w_X7_wrong_64 K X h)
    · replace h := it c50 h
      refine j_iload_n K dX7_wrong_53 rfl 3 rfl ?_
      refine j_iconst (v := (1 : Int32)) K dX7_wrong_54 (by decide) ?_
      refine j_icmp_lt K dX7_wrong_55 (fun c55 => ?_) (fun c55 => ?_)
      · replace h := it c55 h
        exact j_sub [] rfl (w_X7_wrong_64 K X h)
      · replace h := ie c55 h
        refine j_iload_n K dX7_wrong_58 rfl 3 rfl ?_
        refine j_bipush (v := (9 : Int32)) K dX7_wrong_59 (by decide) ?_
        refine j_icmp_le K dX7_wrong_61 (fun c61 => ?_) (fun c61 => ?_)
        · replace h := it c61 h
          refine j_aload_n K dX7_wrong_67 rfl 1 rfl ?_
          obtain ⟨v68, e68, h⟩ := bd h
          refine fgX7_10 K dX7_wrong_68 e68 ?_
          refine j_iload_n K dX7_wrong_71 rfl 2 rfl ?_
          refine j_iload_n K dX7_wrong_72 rfl 3 rfl ?_
          refine j_iload_n K dX7_wrong_73 rfl 4 rfl ?_
          obtain ⟨o74, ew74, hz74⟩ := bd h
          obtain ⟨er74, ho74⟩ := ob_some ew74
          subst er74
          have h := hz74
          obtain ⟨v74, S74, e74, h⟩ := bd2 h
          refine j_cI (st := []) K (r_V (vs := [vI x1, vI x2, vI x3]) (n := 3) (o := o74) K (c_X0_add e74) ho74 (by decide) rfl dX7_wrong_74 z411 z412 z413 z2 z414 ⟨zd_X0_add, rfl, rfl, rfl, ⟨Nat.le_of_ble_eq_true rfl, Nat.le_of_ble_eq_true rfl⟩, Nat.le_of_ble_eq_true rfl, Nat.le_of_ble_eq_true rfl, Nat.le_of_ble_eq_true rfl⟩) rfl ?_
          refine j_if_eq K dX7_wrong_77 (fun c77 => ?_) (fun c77 => ?_)
          · replace h := it c77 h
            refine j_bipush (v := (-4 : Int32)) K dX7_wrong_92 (by decide) ?_
            exact j_sub [] rfl (w_X7_wrong_94 K X h)
          · replace h := ie c77 h
            refine j_aload_n K dX7_wrong_80 rfl 1 rfl ?_
            obtain ⟨v81, e81, h⟩ := bd h
            refine fgX7_10 K dX7_wrong_81 e81 ?_
            obtain ⟨v84, e84, h⟩ := bd h
            refine fgX7_93 K dX7_wrong_84 e84 ?_
            refine j_iconst (v := (1 : Int32)) K dX7_wrong_87 (by decide) ?_
            refine j_isub K dX7_wrong_88 ?_
            refine j_goto K dX7_wrong_89 ?_
            exact j_sub [] rfl (w_X7_wrong_94 K X h)
        · replace h := ie c61 h
          exact j_sub [] rfl (w_X7_wrong_64 K X h)
def B_X7_wrong_39 (o : Nat) (S : Hp) (x1 : Int32) (x2 : Int32) (x3 : Int32) : Option (Int32 × Hp) :=
  B_X7_wrong_40 o S x1 x2 x3 (0 : Int32)
set_option maxRecDepth 100000 in
set_option maxHeartbeats 4000000 in
theorem w_X7_wrong_39 {E : Cx} {l : Launch} {res : Int32 × Hp} {ad : Nat → Nat} {o : Nat} {S : Hp} {x1 : Int32} {x2 : Int32} {x3 : Int32} (K : Kx E cX7_wrong RX7 (rmd 2 0 0)) (X : Bx E l yX7_wrong 6 (some .int) 0 0 ad (QI res)) (h : B_X7_wrong_39 o S x1 x2 x3 = some res) : J E 0 0 39 [(0, vR (some o)), (1, vI x1), (2, vI x2), (3, vI x3)] [] S ad := by
  refine j_iconst (v := (0 : Int32)) K dX7_wrong_39 (by decide) ?_
  exact w_X7_wrong_40 K X h
def F_X7_wrong (S : Hp) (o : Nat) (x1 : Int32) (x2 : Int32) (x3 : Int32) : Option (Int32 × Hp) :=
  (gR S (some o) 5 0).bind fun v2 =>
  (gI S v2 0 0).bind fun v5 =>
  if x1 = 0 then
    B_X7_wrong_39 o S x1 x2 x3
  else
    if (x1 &&& ((((1 : Int32) <<< (v5 &&& 31)) - (1 : Int32)) ^^^ (-1 : Int32))) = 0 then
      if (x3 &&& ((((1 : Int32) <<< (v5 &&& 31)) - (1 : Int32)) ^^^ (-1 : Int32))) = 0 then
        B_X7_wrong_40 o S x1 x2 x3 (1 : Int32)
      else
        B_X7_wrong_39 o S x1 x2 x3
    else
      B_X7_wrong_39 o S x1 x2 x3
set_option maxRecDepth 100000 in
set_option maxHeartbeats 4000000 in
theorem w_X7_wrong {E : Cx} {l : Launch} {res : Int32 × Hp} {ad : Nat → Nat} {S : Hp} {o : Nat} {x1 : Int32} {x2 : Int32} {x3 : Int32} (K : Kx E cX7_wrong RX7 (rmd 2 0 0)) (X : Bx E l yX7_wrong 6 (some .int) 0 0 ad (QI res)) (h : F_X7_wrong S o x1 x2 x3 = some res) : J E 0 0 0 [(0, vR (some o)), (1, vI x1), (2, vI x2), (3, vI x3)] [] S ad := by
  refine j_iconst (v := (1 : Int32)) K dX7_wrong_0 (by decide) ?_
  refine j_aload_n K dX7_wrong_1 rfl 0 rfl ?_
  obtain ⟨v2, e2, h⟩ := bd h
  refine fgX7_10 K dX7_wrong_2 e2 ?_
  obtain ⟨v5, e5, h⟩ := bd h
  refine fgX7_90 K dX7_wrong_5 e5 ?_
  refine j_ishl K dX7_wrong_8 ?_
  refine j_iconst (v := (1 : Int32)) K dX7_wrong_9 (by decide) ?_
  refine j_isub K dX7_wrong_10 ?_
  refine j_istore (lv' := [(4, vI (((1 : Int32) <<< (v5 &&& 31)) - (1 : Int32))), (0, vR (some o)), (1, vI x1), (2, vI x2), (3, vI x3)]) K dX7_wrong_11 X.2.2.1 (by decide) rfl ?_
  refine j_iload_n K dX7_wrong_13 rfl 2 rfl ?_
  refine j_if_eq K dX7_wrong_14 (fun c14 => ?_) (fun c14 => ?_)
  · replace h := it c14 h
    exact j_sub [1, 2, 3, 4] rfl (w_X7_wrong_39 K X h)
  · replace h := ie c14 h
    refine j_iload_n K dX7_wrong_17 rfl 2 rfl ?_
    refine j_iload K dX7_wrong_18 0 rfl ?_
    refine j_iconst (v := (-1 : Int32)) K dX7_wrong_20 (by decide) ?_
    refine j_ixor K dX7_wrong_21 ?_
    refine j_iand K dX7_wrong_22 ?_
    refine j_if_ne K dX7_wrong_23 (fun c23 => ?_) (fun c23 => ?_)
    · replace h := ie c23 h
      exact j_sub [1, 2, 3, 4] rfl (w_X7_wrong_39 K X h)
    · replace h := it c23 h
      refine j_iload_n K dX7_wrong_26 rfl 4 rfl ?_
      refine j_iload K dX7_wrong_27 0 rfl ?_
      refine j_iconst (v := (-1 : Int32)) K dX7_wrong_29 (by decide) ?_
      refine j_ixor K dX7_wrong_30 ?_
      refine j_iand K dX7_wrong_31 ?_
      refine j_if_ne K dX7_wrong_32 (fun c32 => ?_) (fun c32 => ?_)
      · replace h := ie c32 h
        exact j_sub [1, 2, 3, 4] rfl (w_X7_wrong_39 K X h)
      · replace h := it c32 h
        refine j_iconst (v := (1 : Int32)) K dX7_wrong_35 (by decide) ?_
        refine j_goto K dX7_wrong_36 ?_
        exact j_sub [1, 2, 3, 4] rfl (w_X7_wrong_40 K X h)
theorem c_X7_wrong {l : Launch} {S : Hp} {o : Nat} {x1 : Int32} {x2 : Int32} {x3 : Int32} {res : Int32 × Hp} (h : F_X7_wrong S o x1 x2 x3 = some res) : Ct l yX7_wrong cX7_wrong 6 (some .int) (rmd 2 0 0) 0 0 [vR (some o), vI x1, vI x2, vI x3] S (QI res) :=
  z_entry (by decide +kernel) (Nat.le_of_ble_eq_true rfl) (fun E ad K X => w_X7_wrong K X h)

theorem dX7_deed_0 : decode cX7_deed 0 = .ok (.aload_n 0, 1) ∧ 0 + 1 = 1 := ⟨by decide +kernel, rfl⟩
theorem dX7_deed_1 : decode cX7_deed 1 = .ok (.getfield 10, 3) ∧ 1 + 3 = 4 := ⟨by decide +kernel, rfl⟩
theorem dX7_deed_4 : decode cX7_deed 4 = .ok (.iload_n 1, 1) ∧ 4 + 1 = 5 := ⟨by decide +kernel, rfl⟩
theorem dX7_deed_5 : decode cX7_deed 5 = .ok (.invokevirtual 109, 3) := by decide +kernel
theorem dX7_deed_8 : decode cX7_deed 8 = .ok (.ifCond .ne 6, 3) ∧ 8 + 3 = 11 ∧ ((8 : Nat) : Int) + (6) = ((14 : Nat) : Int) := ⟨by decide +kernel, rfl, by decide⟩
theorem dX7_deed_11 : decode cX7_deed 11 = .ok (.bipush (-5), 2) ∧ 11 + 2 = 13 := ⟨by decide +kernel, rfl⟩
theorem dX7_deed_13 : decode cX7_deed 13 = .ok (.ireturn, 1) := by decide +kernel
theorem dX7_deed_14 : decode cX7_deed 14 = .ok (.iload_n 2, 1) ∧ 14 + 1 = 15 := ⟨by decide +kernel, rfl⟩
theorem dX7_deed_15 : decode cX7_deed 15 = .ok (.tableswitch 61 0 2 #[25, 37, 49], 25) := by decide +kernel
theorem dX7_deed_40 : decode cX7_deed 40 = .ok (.aload_n 0, 1) ∧ 40 + 1 = 41 := ⟨by decide +kernel, rfl⟩
theorem dX7_deed_41 : decode cX7_deed 41 = .ok (.getfield 10, 3) ∧ 41 + 3 = 44 := ⟨by decide +kernel, rfl⟩
theorem dX7_deed_44 : decode cX7_deed 44 = .ok (.getfield 113, 3) ∧ 44 + 3 = 47 := ⟨by decide +kernel, rfl⟩
theorem dX7_deed_47 : decode cX7_deed 47 = .ok (.iload_n 1, 1) ∧ 47 + 1 = 48 := ⟨by decide +kernel, rfl⟩
theorem dX7_deed_48 : decode cX7_deed 48 = .ok (.invokestatic 116, 3) := by decide +kernel
theorem dX7_deed_51 : decode cX7_deed 51 = .ok (.ireturn, 1) := by decide +kernel
theorem dX7_deed_52 : decode cX7_deed 52 = .ok (.aload_n 0, 1) ∧ 52 + 1 = 53 := ⟨by decide +kernel, rfl⟩
theorem dX7_deed_53 : decode cX7_deed 53 = .ok (.getfield 10, 3) ∧ 53 + 3 = 56 := ⟨by decide +kernel, rfl⟩
theorem dX7_deed_56 : decode cX7_deed 56 = .ok (.getfield 120, 3) ∧ 56 + 3 = 59 := ⟨by decide +kernel, rfl⟩
theorem dX7_deed_59 : decode cX7_deed 59 = .ok (.iload_n 1, 1) ∧ 59 + 1 = 60 := ⟨by decide +kernel, rfl⟩
theorem dX7_deed_60 : decode cX7_deed 60 = .ok (.invokestatic 116, 3) := by decide +kernel
theorem dX7_deed_63 : decode cX7_deed 63 = .ok (.ireturn, 1) := by decide +kernel
theorem dX7_deed_64 : decode cX7_deed 64 = .ok (.aload_n 0, 1) ∧ 64 + 1 = 65 := ⟨by decide +kernel, rfl⟩
theorem dX7_deed_65 : decode cX7_deed 65 = .ok (.getfield 10, 3) ∧ 65 + 3 = 68 := ⟨by decide +kernel, rfl⟩
theorem dX7_deed_68 : decode cX7_deed 68 = .ok (.getfield 123, 3) ∧ 68 + 3 = 71 := ⟨by decide +kernel, rfl⟩
theorem dX7_deed_71 : decode cX7_deed 71 = .ok (.iload_n 1, 1) ∧ 71 + 1 = 72 := ⟨by decide +kernel, rfl⟩
theorem dX7_deed_72 : decode cX7_deed 72 = .ok (.invokestatic 116, 3) := by decide +kernel
theorem dX7_deed_75 : decode cX7_deed 75 = .ok (.ireturn, 1) := by decide +kernel
theorem dX7_deed_76 : decode cX7_deed 76 = .ok (.bipush (-7), 2) ∧ 76 + 2 = 78 := ⟨by decide +kernel, rfl⟩
theorem dX7_deed_78 : decode cX7_deed 78 = .ok (.ireturn, 1) := by decide +kernel
def F_X7_deed (S : Hp) (o : Nat) (x1 : Int32) (x2 : Int32) : Option (Int32 × Hp) :=
  (gR S (some o) 5 0).bind fun v1 =>
  (ob S 0 v1).bind fun o5 =>
  b2 (F_X0_hasWrong S o5 x1) fun v5 S5 =>
  if v5 = 0 then
    some ((-5 : Int32), S5)
  else
    if x2 = 0 then
      (gR S5 (some o) 5 0).bind fun v41 =>
      (gR S5 v41 0 6).bind fun v44 =>
      b2 (F_X7_at S5 v44 x1) fun v48 S48 =>
      some (v48, S48)
    else
    if x2 = 1 then
      (gR S5 (some o) 5 0).bind fun v53 =>
      (gR S5 v53 0 7).bind fun v56 =>
      b2 (F_X7_at S5 v56 x1) fun v60 S60 =>
      some (v60, S60)
    else
    if x2 = 2 then
      (gR S5 (some o) 5 0).bind fun v65 =>
      (gR S5 v65 0 8).bind fun v68 =>
      b2 (F_X7_at S5 v68 x1) fun v72 S72 =>
      some (v72, S72)
    else
    some ((-7 : Int32), S5)
set_option maxRecDepth 100000 in
set_option maxHeartbeats 4000000 in
theorem w_X7_deed {E : Cx} {l : Launch} {res : Int32 × Hp} {ad : Nat → Nat} {S : Hp} {o : Nat} {x1 : Int32} {x2 : Int32} (K : Kx E cX7_deed RX7 (rmd 2 0 0)) (X : Bx E l yX7_deed 3 (some .int) 0 0 ad (QI res)) (h : F_X7_deed S o x1 x2 = some res) : J E 0 0 0 [(0, vR (some o)), (1, vI x1), (2, vI x2)] [] S ad := by
  refine j_aload_n K dX7_deed_0 rfl 0 rfl ?_
  obtain ⟨v1, e1, h⟩ := bd h
  refine fgX7_10 K dX7_deed_1 e1 ?_
  refine j_iload_n K dX7_deed_4 rfl 1 rfl ?_
  obtain ⟨o5, ew5, hz5⟩ := bd h
  obtain ⟨er5, ho5⟩ := ob_some ew5
  subst er5
  have h := hz5
  obtain ⟨v5, S5, e5, h⟩ := bd2 h
  refine j_cI (st := []) K (r_V (vs := [vI x1]) (n := 1) (o := o5) K (c_X0_hasWrong e5) ho5 (by decide) rfl dX7_deed_5 z420 z421 z422 z2 z423 ⟨zd_X0_hasWrong, rfl, rfl, rfl, ⟨Nat.le_of_ble_eq_true rfl, Nat.le_of_ble_eq_true rfl⟩, Nat.le_of_ble_eq_true rfl, Nat.le_of_ble_eq_true rfl, Nat.le_of_ble_eq_true rfl⟩) rfl ?_
  refine j_if_ne K dX7_deed_8 (fun c8 => ?_) (fun c8 => ?_)
  · replace h := ie c8 h
    refine j_iload_n K dX7_deed_14 rfl 2 rfl ?_
    by_cases c15_0 : x2 = 0
    · replace h := it c15_0 h
      have t15 : x2.toInt = 0 := by rw [c15_0]; rfl
      refine j_tin (tgt := 40) K dX7_deed_15 (by rw [t15]; decide) (by rw [t15]; decide) (by rw [t15]; rfl) (by decide) ?_
      refine j_aload_n K dX7_deed_40 rfl 0 rfl ?_
      obtain ⟨v41, e41, h⟩ := bd h
      refine fgX7_10 K dX7_deed_41 e41 ?_
      obtain ⟨v44, e44, h⟩ := bd h
      refine fgX7_113 K dX7_deed_44 e44 ?_
      refine j_iload_n K dX7_deed_47 rfl 1 rfl ?_
      obtain ⟨v48, S48, e48, h⟩ := bd2 h
      refine j_cI (st := []) K (r_S (vs := [vR v44, vI x1]) (n := 2) K (c_X7_at e48) dX7_deed_48 z427 z227 z1 z228 ⟨zd_X7_at, rfl, rfl, rfl, ⟨Nat.le_of_ble_eq_true rfl, Nat.le_of_ble_eq_true rfl⟩, Nat.le_of_ble_eq_true rfl, Nat.le_of_ble_eq_true rfl, Nat.le_of_ble_eq_true rfl⟩) rfl ?_
      exact j_iret K X dX7_deed_51 h
    replace h := ie c15_0 h
    by_cases c15_1 : x2 = 1
    · replace h := it c15_1 h
      have t15 : x2.toInt = 1 := by rw [c15_1]; rfl
      refine j_tin (tgt := 52) K dX7_deed_15 (by rw [t15]; decide) (by rw [t15]; decide) (by rw [t15]; rfl) (by decide) ?_
      refine j_aload_n K dX7_deed_52 rfl 0 rfl ?_
      obtain ⟨v53, e53, h⟩ := bd h
      refine fgX7_10 K dX7_deed_53 e53 ?_
      obtain ⟨v56, e56, h⟩ := bd h
      refine fgX7_120 K dX7_deed_56 e56 ?_
      refine j_iload_n K dX7_deed_59 rfl 1 rfl ?_
      obtain ⟨v60, S60, e60, h⟩ := bd2 h
      refine j_cI (st := []) K (r_S (vs := [vR v56, vI x1]) (n := 2) K (c_X7_at e60) dX7_deed_60 z427 z227 z1 z228 ⟨zd_X7_at, rfl, rfl, rfl, ⟨Nat.le_of_ble_eq_true rfl, Nat.le_of_ble_eq_true rfl⟩, Nat.le_of_ble_eq_true rfl, Nat.le_of_ble_eq_true rfl, Nat.le_of_ble_eq_true rfl⟩) rfl ?_
      exact j_iret K X dX7_deed_63 h
    replace h := ie c15_1 h
    by_cases c15_2 : x2 = 2
    · replace h := it c15_2 h
      have t15 : x2.toInt = 2 := by rw [c15_2]; rfl
      refine j_tin (tgt := 64) K dX7_deed_15 (by rw [t15]; decide) (by rw [t15]; decide) (by rw [t15]; rfl) (by decide) ?_
      refine j_aload_n K dX7_deed_64 rfl 0 rfl ?_
      obtain ⟨v65, e65, h⟩ := bd h
      refine fgX7_10 K dX7_deed_65 e65 ?_
      obtain ⟨v68, e68, h⟩ := bd h
      refine fgX7_123 K dX7_deed_68 e68 ?_
      refine j_iload_n K dX7_deed_71 rfl 1 rfl ?_
      obtain ⟨v72, S72, e72, h⟩ := bd2 h
      refine j_cI (st := []) K (r_S (vs := [vR v68, vI x1]) (n := 2) K (c_X7_at e72) dX7_deed_72 z427 z227 z1 z228 ⟨zd_X7_at, rfl, rfl, rfl, ⟨Nat.le_of_ble_eq_true rfl, Nat.le_of_ble_eq_true rfl⟩, Nat.le_of_ble_eq_true rfl, Nat.le_of_ble_eq_true rfl, Nat.le_of_ble_eq_true rfl⟩) rfl ?_
      exact j_iret K X dX7_deed_75 h
    replace h := ie c15_2 h
    have t15_0 : x2.toInt ≠ 0 := swn rfl c15_0
    have t15_1 : x2.toInt ≠ 1 := swn rfl c15_1
    have t15_2 : x2.toInt ≠ 2 := swn rfl c15_2
    refine j_tout (tgt := 76) K dX7_deed_15 (by omega) (by decide) ?_
    refine j_bipush (v := (-7 : Int32)) K dX7_deed_76 (by decide) ?_
    exact j_iret K X dX7_deed_78 h
  · replace h := it c8 h
    refine j_bipush (v := (-5 : Int32)) K dX7_deed_11 (by decide) ?_
    exact j_iret K X dX7_deed_13 h
theorem c_X7_deed {l : Launch} {S : Hp} {o : Nat} {x1 : Int32} {x2 : Int32} {res : Int32 × Hp} (h : F_X7_deed S o x1 x2 = some res) : Ct l yX7_deed cX7_deed 3 (some .int) (rmd 2 0 0) 0 0 [vR (some o), vI x1, vI x2] S (QI res) :=
  z_entry (by decide +kernel) (Nat.le_of_ble_eq_true rfl) (fun E ad K X => w_X7_deed K X h)

theorem dX7_amend_0 : decode cX7_amend 0 = .ok (.aload_n 0, 1) ∧ 0 + 1 = 1 := ⟨by decide +kernel, rfl⟩
theorem dX7_amend_1 : decode cX7_amend 1 = .ok (.getfield 10, 3) ∧ 1 + 3 = 4 := ⟨by decide +kernel, rfl⟩
theorem dX7_amend_4 : decode cX7_amend 4 = .ok (.iload_n 1, 1) ∧ 4 + 1 = 5 := ⟨by decide +kernel, rfl⟩
theorem dX7_amend_5 : decode cX7_amend 5 = .ok (.invokevirtual 109, 3) := by decide +kernel
theorem dX7_amend_8 : decode cX7_amend 8 = .ok (.ifCond .ne 6, 3) ∧ 8 + 3 = 11 ∧ ((8 : Nat) : Int) + (6) = ((14 : Nat) : Int) := ⟨by decide +kernel, rfl, by decide⟩
theorem dX7_amend_11 : decode cX7_amend 11 = .ok (.bipush (-5), 2) ∧ 11 + 2 = 13 := ⟨by decide +kernel, rfl⟩
theorem dX7_amend_13 : decode cX7_amend 13 = .ok (.ireturn, 1) := by decide +kernel
theorem dX7_amend_14 : decode cX7_amend 14 = .ok (.aload_n 0, 1) ∧ 14 + 1 = 15 := ⟨by decide +kernel, rfl⟩
theorem dX7_amend_15 : decode cX7_amend 15 = .ok (.getfield 10, 3) ∧ 15 + 3 = 18 := ⟨by decide +kernel, rfl⟩
theorem dX7_amend_18 : decode cX7_amend 18 = .ok (.getfield 120, 3) ∧ 18 + 3 = 21 := ⟨by decide +kernel, rfl⟩
theorem dX7_amend_21 : decode cX7_amend 21 = .ok (.iload_n 1, 1) ∧ 21 + 1 = 22 := ⟨by decide +kernel, rfl⟩
theorem dX7_amend_22 : decode cX7_amend 22 = .ok (.invokestatic 116, 3) := by decide +kernel
theorem dX7_amend_25 : decode cX7_amend 25 = .ok (.istore_n 2, 1) ∧ 25 + 1 = 26 := ⟨by decide +kernel, rfl⟩
theorem dX7_amend_26 : decode cX7_amend 26 = .ok (.aload_n 0, 1) ∧ 26 + 1 = 27 := ⟨by decide +kernel, rfl⟩
theorem dX7_amend_27 : decode cX7_amend 27 = .ok (.getfield 10, 3) ∧ 27 + 3 = 30 := ⟨by decide +kernel, rfl⟩
theorem dX7_amend_30 : decode cX7_amend 30 = .ok (.iload_n 1, 1) ∧ 30 + 1 = 31 := ⟨by decide +kernel, rfl⟩
theorem dX7_amend_31 : decode cX7_amend 31 = .ok (.invokevirtual 126, 3) := by decide +kernel
theorem dX7_amend_34 : decode cX7_amend 34 = .ok (.iload_n 2, 1) ∧ 34 + 1 = 35 := ⟨by decide +kernel, rfl⟩
theorem dX7_amend_35 : decode cX7_amend 35 = .ok (.ireturn, 1) := by decide +kernel
def F_X7_amend (fu : Nat) (S : Hp) (o : Nat) (x1 : Int32) : Option (Int32 × Hp) :=
  (gR S (some o) 5 0).bind fun v1 =>
  (ob S 0 v1).bind fun o5 =>
  b2 (F_X0_hasWrong S o5 x1) fun v5 S5 =>
  if v5 = 0 then
    some ((-5 : Int32), S5)
  else
    (gR S5 (some o) 5 0).bind fun v15 =>
    (gR S5 v15 0 7).bind fun v18 =>
    b2 (F_X7_at S5 v18 x1) fun v22 S22 =>
    (gR S22 (some o) 5 0).bind fun v27 =>
    (ob S22 0 v27).bind fun o31 =>
    (F_X0_drop fu S22 o31 x1).bind fun S31 =>
    some (v22, S31)
set_option maxRecDepth 100000 in
set_option maxHeartbeats 4000000 in
theorem w_X7_amend {E : Cx} {l : Launch} {res : Int32 × Hp} {ad : Nat → Nat} {fu : Nat} {S : Hp} {o : Nat} {x1 : Int32} (K : Kx E cX7_amend RX7 (rmd 2 0 0)) (X : Bx E l yX7_amend 3 (some .int) 0 0 ad (QI res)) (h : F_X7_amend fu S o x1 = some res) : J E 0 0 0 [(0, vR (some o)), (1, vI x1)] [] S ad := by
  refine j_aload_n K dX7_amend_0 rfl 0 rfl ?_
  obtain ⟨v1, e1, h⟩ := bd h
  refine fgX7_10 K dX7_amend_1 e1 ?_
  refine j_iload_n K dX7_amend_4 rfl 1 rfl ?_
  obtain ⟨o5, ew5, hz5⟩ := bd h
  obtain ⟨er5, ho5⟩ := ob_some ew5
  subst er5
  have h := hz5
  obtain ⟨v5, S5, e5, h⟩ := bd2 h
  refine j_cI (st := []) K (r_V (vs := [vI x1]) (n := 1) (o := o5) K (c_X0_hasWrong e5) ho5 (by decide) rfl dX7_amend_5 z420 z421 z422 z2 z423 ⟨zd_X0_hasWrong, rfl, rfl, rfl, ⟨Nat.le_of_ble_eq_true rfl, Nat.le_of_ble_eq_true rfl⟩, Nat.le_of_ble_eq_true rfl, Nat.le_of_ble_eq_true rfl, Nat.le_of_ble_eq_true rfl⟩) rfl ?_
  refine j_if_ne K dX7_amend_8 (fun c8 => ?_) (fun c8 => ?_)
  · replace h := ie c8 h
    refine j_aload_n K dX7_amend_14 rfl 0 rfl ?_
    obtain ⟨v15, e15, h⟩ := bd h
    refine fgX7_10 K dX7_amend_15 e15 ?_
    obtain ⟨v18, e18, h⟩ := bd h
    refine fgX7_120 K dX7_amend_18 e18 ?_
    refine j_iload_n K dX7_amend_21 rfl 1 rfl ?_
    obtain ⟨v22, S22, e22, h⟩ := bd2 h
    refine j_cI (st := []) K (r_S (vs := [vR v18, vI x1]) (n := 2) K (c_X7_at e22) dX7_amend_22 z427 z227 z1 z228 ⟨zd_X7_at, rfl, rfl, rfl, ⟨Nat.le_of_ble_eq_true rfl, Nat.le_of_ble_eq_true rfl⟩, Nat.le_of_ble_eq_true rfl, Nat.le_of_ble_eq_true rfl, Nat.le_of_ble_eq_true rfl⟩) rfl ?_
    refine j_istore_n (lv' := [(2, vI v22), (0, vR (some o)), (1, vI x1)]) K dX7_amend_25 rfl X.2.2.1 (by decide) rfl ?_
    refine j_aload_n K dX7_amend_26 rfl 1 rfl ?_
    obtain ⟨v27, e27, h⟩ := bd h
    refine fgX7_10 K dX7_amend_27 e27 ?_
    refine j_iload_n K dX7_amend_30 rfl 2 rfl ?_
    obtain ⟨o31, ew31, hz31⟩ := bd h
    obtain ⟨er31, ho31⟩ := ob_some ew31
    subst er31
    have h := hz31
    obtain ⟨S31, e31, h⟩ := bd h
    refine j_cV (st := []) K (r_V (vs := [vI x1]) (n := 1) (o := o31) K (c_X0_drop e31) ho31 (by decide) rfl dX7_amend_31 z432 z433 z434 z2 z435 ⟨zd_X0_drop, rfl, rfl, rfl, ⟨Nat.le_of_ble_eq_true rfl, Nat.le_of_ble_eq_true rfl⟩, Nat.le_of_ble_eq_true rfl, Nat.le_of_ble_eq_true rfl, Nat.le_of_ble_eq_true rfl⟩) rfl ?_
    refine j_iload_n K dX7_amend_34 rfl 0 rfl ?_
    exact j_iret K X dX7_amend_35 h
  · replace h := it c8 h
    refine j_bipush (v := (-5 : Int32)) K dX7_amend_11 (by decide) ?_
    exact j_iret K X dX7_amend_13 h
theorem c_X7_amend {l : Launch} {fu : Nat} {S : Hp} {o : Nat} {x1 : Int32} {res : Int32 × Hp} (h : F_X7_amend fu S o x1 = some res) : Ct l yX7_amend cX7_amend 3 (some .int) (rmd 2 0 0) 0 0 [vR (some o), vI x1] S (QI res) :=
  z_entry (by decide +kernel) (Nat.le_of_ble_eq_true rfl) (fun E ad K X => w_X7_amend K X h)

theorem dX7_isByte_0 : decode cX7_isByte 0 = .ok (.iload_n 0, 1) ∧ 0 + 1 = 1 := ⟨by decide +kernel, rfl⟩
theorem dX7_isByte_1 : decode cX7_isByte 1 = .ok (.sipush 256, 3) ∧ 1 + 3 = 4 := ⟨by decide +kernel, rfl⟩
theorem dX7_isByte_4 : decode cX7_isByte 4 = .ok (.invokestatic 135, 3) := by decide +kernel
theorem dX7_isByte_7 : decode cX7_isByte 7 = .ok (.ireturn, 1) := by decide +kernel
def F_X7_isByte (S : Hp) (x0 : Int32) : Option (Int32 × Hp) :=
  b2 (F_X7_fits S x0 (256 : Int32)) fun v4 S4 =>
  zb v4 S4
set_option maxRecDepth 100000 in
set_option maxHeartbeats 4000000 in
theorem w_X7_isByte {E : Cx} {l : Launch} {res : Int32 × Hp} {ad : Nat → Nat} {S : Hp} {x0 : Int32} (K : Kx E cX7_isByte RX7 (rmd 1 0 0)) (X : Bx E l yX7_isByte 1 (some .boolean) 0 0 ad (QI res)) (h : F_X7_isByte S x0 = some res) : J E 0 0 0 [(0, vI x0)] [] S ad := by
  refine j_iload_n K dX7_isByte_0 rfl 0 rfl ?_
  refine j_sipush (v := (256 : Int32)) K dX7_isByte_1 (by decide) ?_
  obtain ⟨v4, S4, e4, h⟩ := bd2 h
  refine j_cI (st := []) K (r_S (vs := [vI x0, vI (256 : Int32)]) (n := 2) K (c_X7_fits e4) dX7_isByte_4 z444 z425 z1 z426 ⟨zd_X7_fits, rfl, rfl, rfl, ⟨Nat.le_of_ble_eq_true rfl, Nat.le_of_ble_eq_true rfl⟩, Nat.le_of_ble_eq_true rfl, Nat.le_of_ble_eq_true rfl, Nat.le_of_ble_eq_true rfl⟩) rfl ?_
  exact j_zret K X dX7_isByte_7 h
theorem c_X7_isByte {l : Launch} {S : Hp} {x0 : Int32} {res : Int32 × Hp} (h : F_X7_isByte S x0 = some res) : Ct l yX7_isByte cX7_isByte 1 (some .boolean) (rmd 1 0 0) 0 0 [vI x0] S (QI res) :=
  z_entry (by decide +kernel) (Nat.le_of_ble_eq_true rfl) (fun E ad K X => w_X7_isByte K X h)

theorem dX7_feed_0 : decode cX7_feed 0 = .ok (.iload_n 2, 1) ∧ 0 + 1 = 1 := ⟨by decide +kernel, rfl⟩
theorem dX7_feed_1 : decode cX7_feed 1 = .ok (.invokestatic 129, 3) := by decide +kernel
theorem dX7_feed_4 : decode cX7_feed 4 = .ok (.ifCond .eq 38, 3) ∧ 4 + 3 = 7 ∧ ((4 : Nat) : Int) + (38) = ((42 : Nat) : Int) := ⟨by decide +kernel, rfl, by decide⟩
theorem dX7_feed_7 : decode cX7_feed 7 = .ok (.iload_n 3, 1) ∧ 7 + 1 = 8 := ⟨by decide +kernel, rfl⟩
theorem dX7_feed_8 : decode cX7_feed 8 = .ok (.invokestatic 129, 3) := by decide +kernel
theorem dX7_feed_11 : decode cX7_feed 11 = .ok (.ifCond .eq 31, 3) ∧ 11 + 3 = 14 ∧ ((11 : Nat) : Int) + (31) = ((42 : Nat) : Int) := ⟨by decide +kernel, rfl, by decide⟩
theorem dX7_feed_14 : decode cX7_feed 14 = .ok (.iload 4, 2) ∧ 14 + 2 = 16 := ⟨by decide +kernel, rfl⟩
theorem dX7_feed_16 : decode cX7_feed 16 = .ok (.invokestatic 129, 3) := by decide +kernel
theorem dX7_feed_19 : decode cX7_feed 19 = .ok (.ifCond .eq 23, 3) ∧ 19 + 3 = 22 ∧ ((19 : Nat) : Int) + (23) = ((42 : Nat) : Int) := ⟨by decide +kernel, rfl, by decide⟩
theorem dX7_feed_22 : decode cX7_feed 22 = .ok (.iload 5, 2) ∧ 22 + 2 = 24 := ⟨by decide +kernel, rfl⟩
theorem dX7_feed_24 : decode cX7_feed 24 = .ok (.invokestatic 129, 3) := by decide +kernel
theorem dX7_feed_27 : decode cX7_feed 27 = .ok (.ifCond .eq 15, 3) ∧ 27 + 3 = 30 ∧ ((27 : Nat) : Int) + (15) = ((42 : Nat) : Int) := ⟨by decide +kernel, rfl, by decide⟩
theorem dX7_feed_30 : decode cX7_feed 30 = .ok (.iload 6, 2) ∧ 30 + 2 = 32 := ⟨by decide +kernel, rfl⟩
theorem dX7_feed_32 : decode cX7_feed 32 = .ok (.invokestatic 129, 3) := by decide +kernel
theorem dX7_feed_35 : decode cX7_feed 35 = .ok (.ifCond .eq 7, 3) ∧ 35 + 3 = 38 ∧ ((35 : Nat) : Int) + (7) = ((42 : Nat) : Int) := ⟨by decide +kernel, rfl, by decide⟩
theorem dX7_feed_38 : decode cX7_feed 38 = .ok (.iconst 1, 1) ∧ 38 + 1 = 39 := ⟨by decide +kernel, rfl⟩
theorem dX7_feed_39 : decode cX7_feed 39 = .ok (.goto 4, 3) ∧ ((39 : Nat) : Int) + (4) = ((43 : Nat) : Int) := ⟨by decide +kernel, by decide⟩
theorem dX7_feed_42 : decode cX7_feed 42 = .ok (.iconst 0, 1) ∧ 42 + 1 = 43 := ⟨by decide +kernel, rfl⟩
theorem dX7_feed_43 : decode cX7_feed 43 = .ok (.istore 7, 2) ∧ 43 + 2 = 45 := ⟨by decide +kernel, rfl⟩
theorem dX7_feed_45 : decode cX7_feed 45 = .ok (.iload_n 1, 1) ∧ 45 + 1 = 46 := ⟨by decide +kernel, rfl⟩
theorem dX7_feed_46 : decode cX7_feed 46 = .ok (.iconst 1, 1) ∧ 46 + 1 = 47 := ⟨by decide +kernel, rfl⟩
theorem dX7_feed_47 : decode cX7_feed 47 = .ok (.if_icmp .lt 13, 3) ∧ 47 + 3 = 50 ∧ ((47 : Nat) : Int) + (13) = ((60 : Nat) : Int) := ⟨by decide +kernel, rfl, by decide⟩
theorem dX7_feed_50 : decode cX7_feed 50 = .ok (.iload_n 1, 1) ∧ 50 + 1 = 51 := ⟨by decide +kernel, rfl⟩
theorem dX7_feed_51 : decode cX7_feed 51 = .ok (.iconst 5, 1) ∧ 51 + 1 = 52 := ⟨by decide +kernel, rfl⟩
theorem dX7_feed_52 : decode cX7_feed 52 = .ok (.if_icmp .gt 8, 3) ∧ 52 + 3 = 55 ∧ ((52 : Nat) : Int) + (8) = ((60 : Nat) : Int) := ⟨by decide +kernel, rfl, by decide⟩
theorem dX7_feed_55 : decode cX7_feed 55 = .ok (.iload 7, 2) ∧ 55 + 2 = 57 := ⟨by decide +kernel, rfl⟩
theorem dX7_feed_57 : decode cX7_feed 57 = .ok (.ifCond .ne 6, 3) ∧ 57 + 3 = 60 ∧ ((57 : Nat) : Int) + (6) = ((63 : Nat) : Int) := ⟨by decide +kernel, rfl, by decide⟩
theorem dX7_feed_60 : decode cX7_feed 60 = .ok (.bipush (-2), 2) ∧ 60 + 2 = 62 := ⟨by decide +kernel, rfl⟩
theorem dX7_feed_62 : decode cX7_feed 62 = .ok (.ireturn, 1) := by decide +kernel
theorem dX7_feed_63 : decode cX7_feed 63 = .ok (.aload_n 0, 1) ∧ 63 + 1 = 64 := ⟨by decide +kernel, rfl⟩
theorem dX7_feed_64 : decode cX7_feed 64 = .ok (.getfield 29, 3) ∧ 64 + 3 = 67 := ⟨by decide +kernel, rfl⟩
theorem dX7_feed_67 : decode cX7_feed 67 = .ok (.getfield 102, 3) ∧ 67 + 3 = 70 := ⟨by decide +kernel, rfl⟩
theorem dX7_feed_70 : decode cX7_feed 70 = .ok (.iload_n 1, 1) ∧ 70 + 1 = 71 := ⟨by decide +kernel, rfl⟩
theorem dX7_feed_71 : decode cX7_feed 71 = .ok (.iadd, 1) ∧ 71 + 1 = 72 := ⟨by decide +kernel, rfl⟩
theorem dX7_feed_72 : decode cX7_feed 72 = .ok (.sipush 160, 3) ∧ 72 + 3 = 75 := ⟨by decide +kernel, rfl⟩
theorem dX7_feed_75 : decode cX7_feed 75 = .ok (.if_icmp .le 6, 3) ∧ 75 + 3 = 78 ∧ ((75 : Nat) : Int) + (6) = ((81 : Nat) : Int) := ⟨by decide +kernel, rfl, by decide⟩
theorem dX7_feed_78 : decode cX7_feed 78 = .ok (.bipush (-4), 2) ∧ 78 + 2 = 80 := ⟨by decide +kernel, rfl⟩
theorem dX7_feed_80 : decode cX7_feed 80 = .ok (.ireturn, 1) := by decide +kernel
theorem dX7_feed_81 : decode cX7_feed 81 = .ok (.iconst 0, 1) ∧ 81 + 1 = 82 := ⟨by decide +kernel, rfl⟩
theorem dX7_feed_82 : decode cX7_feed 82 = .ok (.istore 8, 2) ∧ 82 + 2 = 84 := ⟨by decide +kernel, rfl⟩
theorem dX7_feed_84 : decode cX7_feed 84 = .ok (.iload 8, 2) ∧ 84 + 2 = 86 := ⟨by decide +kernel, rfl⟩
theorem dX7_feed_86 : decode cX7_feed 86 = .ok (.iload_n 1, 1) ∧ 86 + 1 = 87 := ⟨by decide +kernel, rfl⟩
theorem dX7_feed_87 : decode cX7_feed 87 = .ok (.if_icmp .ge 59, 3) ∧ 87 + 3 = 90 ∧ ((87 : Nat) : Int) + (59) = ((146 : Nat) : Int) := ⟨by decide +kernel, rfl, by decide⟩
theorem dX7_feed_90 : decode cX7_feed 90 = .ok (.aload_n 0, 1) ∧ 90 + 1 = 91 := ⟨by decide +kernel, rfl⟩
theorem dX7_feed_91 : decode cX7_feed 91 = .ok (.getfield 29, 3) ∧ 91 + 3 = 94 := ⟨by decide +kernel, rfl⟩
theorem dX7_feed_94 : decode cX7_feed 94 = .ok (.iload 8, 2) ∧ 94 + 2 = 96 := ⟨by decide +kernel, rfl⟩
theorem dX7_feed_96 : decode cX7_feed 96 = .ok (.ifCond .ne 7, 3) ∧ 96 + 3 = 99 ∧ ((96 : Nat) : Int) + (7) = ((103 : Nat) : Int) := ⟨by decide +kernel, rfl, by decide⟩
theorem dX7_feed_99 : decode cX7_feed 99 = .ok (.iload_n 2, 1) ∧ 99 + 1 = 100 := ⟨by decide +kernel, rfl⟩
theorem dX7_feed_100 : decode cX7_feed 100 = .ok (.goto 37, 3) ∧ ((100 : Nat) : Int) + (37) = ((137 : Nat) : Int) := ⟨by decide +kernel, by decide⟩
theorem dX7_feed_103 : decode cX7_feed 103 = .ok (.iload 8, 2) ∧ 103 + 2 = 105 := ⟨by decide +kernel, rfl⟩
theorem dX7_feed_105 : decode cX7_feed 105 = .ok (.iconst 1, 1) ∧ 105 + 1 = 106 := ⟨by decide +kernel, rfl⟩
theorem dX7_feed_106 : decode cX7_feed 106 = .ok (.if_icmp .ne 7, 3) ∧ 106 + 3 = 109 ∧ ((106 : Nat) : Int) + (7) = ((113 : Nat) : Int) := ⟨by decide +kernel, rfl, by decide⟩
theorem dX7_feed_109 : decode cX7_feed 109 = .ok (.iload_n 3, 1) ∧ 109 + 1 = 110 := ⟨by decide +kernel, rfl⟩
theorem dX7_feed_110 : decode cX7_feed 110 = .ok (.goto 27, 3) ∧ ((110 : Nat) : Int) + (27) = ((137 : Nat) : Int) := ⟨by decide +kernel, by decide⟩
theorem dX7_feed_113 : decode cX7_feed 113 = .ok (.iload 8, 2) ∧ 113 + 2 = 115 := ⟨by decide +kernel, rfl⟩
theorem dX7_feed_115 : decode cX7_feed 115 = .ok (.iconst 2, 1) ∧ 115 + 1 = 116 := ⟨by decide +kernel, rfl⟩
theorem dX7_feed_116 : decode cX7_feed 116 = .ok (.if_icmp .ne 8, 3) ∧ 116 + 3 = 119 ∧ ((116 : Nat) : Int) + (8) = ((124 : Nat) : Int) := ⟨by decide +kernel, rfl, by decide⟩
theorem dX7_feed_119 : decode cX7_feed 119 = .ok (.iload 4, 2) ∧ 119 + 2 = 121 := ⟨by decide +kernel, rfl⟩
theorem dX7_feed_121 : decode cX7_feed 121 = .ok (.goto 16, 3) ∧ ((121 : Nat) : Int) + (16) = ((137 : Nat) : Int) := ⟨by decide +kernel, by decide⟩
theorem dX7_feed_124 : decode cX7_feed 124 = .ok (.iload 8, 2) ∧ 124 + 2 = 126 := ⟨by decide +kernel, rfl⟩
theorem dX7_feed_126 : decode cX7_feed 126 = .ok (.iconst 3, 1) ∧ 126 + 1 = 127 := ⟨by decide +kernel, rfl⟩
theorem dX7_feed_127 : decode cX7_feed 127 = .ok (.if_icmp .ne 8, 3) ∧ 127 + 3 = 130 ∧ ((127 : Nat) : Int) + (8) = ((135 : Nat) : Int) := ⟨by decide +kernel, rfl, by decide⟩
theorem dX7_feed_130 : decode cX7_feed 130 = .ok (.iload 5, 2) ∧ 130 + 2 = 132 := ⟨by decide +kernel, rfl⟩
theorem dX7_feed_132 : decode cX7_feed 132 = .ok (.goto 5, 3) ∧ ((132 : Nat) : Int) + (5) = ((137 : Nat) : Int) := ⟨by decide +kernel, by decide⟩
theorem dX7_feed_135 : decode cX7_feed 135 = .ok (.iload 6, 2) ∧ 135 + 2 = 137 := ⟨by decide +kernel, rfl⟩
theorem dX7_feed_137 : decode cX7_feed 137 = .ok (.invokevirtual 75, 3) := by decide +kernel
theorem dX7_feed_140 : decode cX7_feed 140 = .ok (.iinc 8 1, 3) ∧ 140 + 3 = 143 := ⟨by decide +kernel, rfl⟩
theorem dX7_feed_143 : decode cX7_feed 143 = .ok (.goto (-59), 3) ∧ ((143 : Nat) : Int) + (-59) = ((84 : Nat) : Int) := ⟨by decide +kernel, by decide⟩
theorem dX7_feed_146 : decode cX7_feed 146 = .ok (.aload_n 0, 1) ∧ 146 + 1 = 147 := ⟨by decide +kernel, rfl⟩
theorem dX7_feed_147 : decode cX7_feed 147 = .ok (.getfield 29, 3) ∧ 147 + 3 = 150 := ⟨by decide +kernel, rfl⟩
theorem dX7_feed_150 : decode cX7_feed 150 = .ok (.getfield 102, 3) ∧ 150 + 3 = 153 := ⟨by decide +kernel, rfl⟩
theorem dX7_feed_153 : decode cX7_feed 153 = .ok (.ireturn, 1) := by decide +kernel
def B_X7_feed_60 (fu : Nat) (o : Nat) (S : Hp) : Option (Int32 × Hp) :=
  some ((-2 : Int32), S)
set_option maxRecDepth 100000 in
set_option maxHeartbeats 4000000 in
theorem w_X7_feed_60 {E : Cx} {l : Launch} {res : Int32 × Hp} {ad : Nat → Nat} {fu : Nat} {o : Nat} {S : Hp} (K : Kx E cX7_feed RX7 (rmd 2 0 0)) (X : Bx E l yX7_feed 9 (some .int) 0 0 ad (QI res)) (h : B_X7_feed_60 fu o S = some res) : J E 0 0 60 [] [] S ad := by
  refine j_bipush (v := (-2 : Int32)) K dX7_feed_60 (by decide) ?_
  exact j_iret K X dX7_feed_62 h
def B_X7_feed_137 (k84 : Hp → Int32 → Option (Int32 × Hp)) (fu : Nat) (o : Nat) (S : Hp) (x1 : Int32) (x2 : Int32) (x3 : Int32) (x4 : Int32) (x5 : Int32) (x6 : Int32) (x8 : Int32) (s0 : Int32) (s1 : Option Nat) : Option (Int32 × Hp) :=
  (ob S 4 s1).bind fun o137 =>
  (F_X6_append S o137 s0).bind fun S137 =>
  k84 S137 (x8 + (1 : Int32))
set_option maxRecDepth 100000 in
set_option maxHeartbeats 4000000 in
theorem w_X7_feed_137 {E : Cx} {l : Launch} {res : Int32 × Hp} {ad : Nat → Nat} {k84 : Hp → Int32 → Option (Int32 × Hp)} {fu : Nat} {o : Nat} {S : Hp} {x1 : Int32} {x2 : Int32} {x3 : Int32} {x4 : Int32} {x5 : Int32} {x6 : Int32} {x8 : Int32} {s0 : Int32} {s1 : Option Nat} (K : Kx E cX7_feed RX7 (rmd 2 0 0)) (X : Bx E l yX7_feed 9 (some .int) 0 0 ad (QI res)) (hk84 : ∀ (S : Hp) (x8 : Int32), k84 S x8 = some res → J E 0 0 84 [(0, vR (some o)), (1, vI x1), (2, vI x2), (3, vI x3), (4, vI x4), (5, vI x5), (6, vI x6), (8, vI x8)] [] S ad) (h : B_X7_feed_137 k84 fu o S x1 x2 x3 x4 x5 x6 x8 s0 s1 = some res) : J E 0 0 137 [(0, vR (some o)), (1, vI x1), (2, vI x2), (3, vI x3), (4, vI x4), (5, vI x5), (6, vI x6), (8, vI x8)] [vI s0, vR s1] S ad := by
  obtain ⟨o137, ew137, hz137⟩ := bd h
  obtain ⟨er137, ho137⟩ := ob_some ew137
  subst er137
  have h := hz137
  obtain ⟨S137, e137, h⟩ := bd h
  refine j_cV (st := []) K (r_V (vs := [vI s0]) (n := 1) (o := o137) K (c_X6_append e137) ho137 (by decide) rfl dX7_feed_137 z211 z212 z213 z3 z214 ⟨zd_X6_append, rfl, rfl, rfl, ⟨Nat.le_of_ble_eq_true rfl, Nat.le_of_ble_eq_true rfl⟩, Nat.le_of_ble_eq_true rfl, Nat.le_of_ble_eq_true rfl, Nat.le_of_ble_eq_true rfl⟩) rfl ?_
  refine j_iinc (q := 7) (v := (x8 + (1 : Int32))) (lv' := [(8, vI (x8 + (1 : Int32))), (0, vR (some o)), (1, vI x1), (2, vI x2), (3, vI x3), (4, vI x4), (5, vI x5), (6, vI x6)]) K dX7_feed_140 rfl rfl X.2.2.1 (by decide) rfl ?_
  refine j_goto K dX7_feed_143 ?_
  exact j_sub [1, 2, 3, 4, 5, 6, 7, 0] rfl (hk84 _ _ h)
def L_X7_feed_84 (k84 : Hp → Int32 → Option (Int32 × Hp)) (fu : Nat) (o : Nat) (x1 : Int32) (x2 : Int32) (x3 : Int32) (x4 : Int32) (x5 : Int32) (x6 : Int32) (S : Hp) (x8 : Int32) : Option (Int32 × Hp) :=
  if x1 ≤ x8 then
    (gR S (some o) 5 4).bind fun v147 =>
    (gI S v147 4 1).bind fun v150 =>
    some (v150, S)
  else
    (gR S (some o) 5 4).bind fun v91 =>
    if x8 = 0 then
      B_X7_feed_137 k84 fu o S x1 x2 x3 x4 x5 x6 x8 x2 v91
    else
      if x8 = (1 : Int32) then
        B_X7_feed_137 k84 fu o S x1 x2 x3 x4 x5 x6 x8 x3 v91
      else
        if x8 = (2 : Int32) then
          B_X7_feed_137 k84 fu o S x1 x2 x3 x4 x5 x6 x8 x4 v91
        else
          if x8 = (3 : Int32) then
            B_X7_feed_137 k84 fu o S x1 x2 x3 x4 x5 x6 x8 x5 v91
          else
            B_X7_feed_137 k84 fu o S x1 x2 x3 x4 x5 x6 x8 x6 v91
set_option maxRecDepth 100000 in
set_option maxHeartbeats 4000000 in
theorem wl_X7_feed_84 {E : Cx} {l : Launch} {res : Int32 × Hp} {ad : Nat → Nat} {k84 : Hp → Int32 → Option (Int32 × Hp)} {fu : Nat} {o : Nat} {S : Hp} {x1 : Int32} {x2 : Int32} {x3 : Int32} {x4 : Int32} {x5 : Int32} {x6 : Int32} {x8 : Int32} (K : Kx E cX7_feed RX7 (rmd 2 0 0)) (X : Bx E l yX7_feed 9 (some .int) 0 0 ad (QI res)) (hk84 : ∀ (S : Hp) (x8 : Int32), k84 S x8 = some res → J E 0 0 84 [(0, vR (some o)), (1, vI x1), (2, vI x2), (3, vI x3), (4, vI x4), (5, vI x5), (6, vI x6), (8, vI x8)] [] S ad) (h : L_X7_feed_84 k84 fu o x1 x2 x3 x4 x5 x6 S x8 = some res) : J E 0 0 84 [(0, vR (some o)), (1, vI x1), (2, vI x2), (3, vI x3), (4, vI x4), (5, vI x5), (6, vI x6), (8, vI x8)] [] S ad := by
  refine j_iload K dX7_feed_84 7 rfl ?_
  refine j_iload_n K dX7_feed_86 rfl 1 rfl ?_
  refine j_icmp_ge K dX7_feed_87 (fun c87 => ?_) (fun c87 => ?_)
  · replace h := it c87 h
    refine j_aload_n K dX7_feed_146 rfl 0 rfl ?_
    obtain ⟨v147, e147, h⟩ := bd h
    refine fgX7_29 K dX7_feed_147 e147 ?_
    obtain ⟨v150, e150, h⟩ := bd h
    refine fgX7_102 K dX7_feed_150 e150 ?_
    exact j_iret K X dX7_feed_153 h
  · replace h := ie c87 h
    refine j_aload_n K dX7_feed_90 rfl 0 rfl ?_
    obtain ⟨v91, e91, h⟩ := bd h
    refine fgX7_29 K dX7_feed_91 e91 ?_
    refine j_iload K dX7_feed_94 7 rfl ?_
    refine j_if_ne K dX7_feed_96 (fun c96 => ?_) (fun c96 => ?_)
    · replace h := ie c96 h
      refine j_iload K dX7_feed_103 7 rfl ?_
      refine j_iconst (v := (1 : Int32)) K dX7_feed_105 (by decide) ?_
      refine j_icmp_ne K dX7_feed_106 (fun c106 => ?_) (fun c106 => ?_)
      · replace h := ie c106 h
        refine j_iload K dX7_feed_113 7 rfl ?_
        refine j_iconst (v := (2 : Int32)) K dX7_feed_115 (by decide) ?_
        refine j_icmp_ne K dX7_feed_116 (fun c116 => ?_) (fun c116 => ?_)
        · replace h := ie c116 h
          refine j_iload K dX7_feed_124 7 rfl ?_
          refine j_iconst (v := (3 : Int32)) K dX7_feed_126 (by decide) ?_
          refine j_icmp_ne K dX7_feed_127 (fun c127 => ?_) (fun c127 => ?_)
          · replace h := ie c127 h
            refine j_iload K dX7_feed_135 6 rfl ?_
            exact w_X7_feed_137 K X hk84 h
          · replace h := it c127 h
            refine j_iload K dX7_feed_130 5 rfl ?_
            refine j_goto K dX7_feed_132 ?_
            exact w_X7_feed_137 K X hk84 h
        · replace h := it c116 h
          refine j_iload K dX7_feed_119 4 rfl ?_
          refine j_goto K dX7_feed_121 ?_
          exact w_X7_feed_137 K X hk84 h
      · replace h := it c106 h
        refine j_iload_n K dX7_feed_109 rfl 3 rfl ?_
        refine j_goto K dX7_feed_110 ?_
        exact w_X7_feed_137 K X hk84 h
    · replace h := it c96 h
      refine j_iload_n K dX7_feed_99 rfl 2 rfl ?_
      refine j_goto K dX7_feed_100 ?_
      exact w_X7_feed_137 K X hk84 h
def B_X7_feed_84 (fu : Nat) (o : Nat) (x1 : Int32) (x2 : Int32) (x3 : Int32) (x4 : Int32) (x5 : Int32) (x6 : Int32) : Nat → Hp → Int32 → Option (Int32 × Hp)
  | 0 => fun _ _ => none
  | n + 1 => L_X7_feed_84 (B_X7_feed_84 fu o x1 x2 x3 x4 x5 x6 n) fu o x1 x2 x3 x4 x5 x6
theorem w_X7_feed_84 {E : Cx} {l : Launch} {res : Int32 × Hp} {ad : Nat → Nat} {fu : Nat} {o : Nat} {x1 : Int32} {x2 : Int32} {x3 : Int32} {x4 : Int32} {x5 : Int32} {x6 : Int32} (K : Kx E cX7_feed RX7 (rmd 2 0 0)) (X : Bx E l yX7_feed 9 (some .int) 0 0 ad (QI res)) : ∀ (n : Nat) (S : Hp) (x8 : Int32), B_X7_feed_84 fu o x1 x2 x3 x4 x5 x6 n S x8 = some res → J E 0 0 84 [(0, vR (some o)), (1, vI x1), (2, vI x2), (3, vI x3), (4, vI x4), (5, vI x5), (6, vI x6), (8, vI x8)] [] S ad := by
  intro n
  induction n with
  | zero =>
    intro S x8 h
    cases h
  | succ n ih =>
    intro S x8 h
    exact wl_X7_feed_84 K X ih h
def B_X7_feed_43 (fu : Nat) (o : Nat) (S : Hp) (x1 : Int32) (x2 : Int32) (x3 : Int32) (x4 : Int32) (x5 : Int32) (x6 : Int32) (s0 : Int32) : Option (Int32 × Hp) :=
  if x1 < (1 : Int32) then
    B_X7_feed_60 fu o S
  else
    if (5 : Int32) < x1 then
      B_X7_feed_60 fu o S
    else
      if s0 = 0 then
        B_X7_feed_60 fu o S
      else
        (gR S (some o) 5 4).bind fun v64 =>
        (gI S v64 4 1).bind fun v67 =>
        if (v67 + x1) ≤ (160 : Int32) then
          B_X7_feed_84 fu o x1 x2 x3 x4 x5 x6 fu S (0 : Int32)
        else
          some ((-4 : Int32), S)
set_option maxRecDepth 100000 in
set_option maxHeartbeats 4000000 in
theorem w_X7_feed_43 {E : Cx} {l : Launch} {res : Int32 × Hp} {ad : Nat → Nat} {fu : Nat} {o : Nat} {S : Hp} {x1 : Int32} {x2 : Int32} {x3 : Int32} {x4 : Int32} {x5 : Int32} {x6 : Int32} {s0 : Int32} (K : Kx E cX7_feed RX7 (rmd 2 0 0)) (X : Bx E l yX7_feed 9 (some .int) 0 0 ad (QI res)) (h : B_X7_feed_43 fu o S x1 x2 x3 x4 x5 x6 s0 = some res) : J E 0 0 43 [(0, vR (some o)), (1, vI x1), (2, vI x2), (3, vI x3), (4, vI x4), (5, vI x5), (6, vI x6)] [vI s0] S ad := by
  refine j_istore (lv' := [(7, vI s0), (0, vR (some o)), (1, vI x1), (2, vI x2), (3, vI x3), (4, vI x4), (5, vI x5), (6, vI x6)]) K dX7_feed_43 X.2.2.1 (by decide) rfl ?_
  refine j_iload_n K dX7_feed_45 rfl 2 rfl ?_
  refine j_iconst (v := (1 : Int32)) K dX7_feed_46 (by decide) ?_
  refine j_icmp_lt K dX7_feed_47 (fun c47 => ?_) (fun c47 => ?_)
  · replace h := it c47 h
    exact j_sub [] rfl (w_X7_feed_60 K X h)
  · replace h := ie c47 h
    refine j_iload_n K dX7_feed_50 rfl 2 rfl ?_
    refine j_iconst (v := (5 : Int32)) K dX7_feed_51 (by decide) ?_
    refine j_icmp_gt K dX7_feed_52 (fun c52 => ?_) (fun c52 => ?_)
    · replace h := it c52 h
      exact j_sub [] rfl (w_X7_feed_60 K X h)
    · replace h := ie c52 h
      refine j_iload K dX7_feed_55 0 rfl ?_
      refine j_if_ne K dX7_feed_57 (fun c57 => ?_) (fun c57 => ?_)
      · replace h := ie c57 h
        refine j_aload_n K dX7_feed_63 rfl 1 rfl ?_
        obtain ⟨v64, e64, h⟩ := bd h
        refine fgX7_29 K dX7_feed_64 e64 ?_
        obtain ⟨v67, e67, h⟩ := bd h
        refine fgX7_102 K dX7_feed_67 e67 ?_
        refine j_iload_n K dX7_feed_70 rfl 2 rfl ?_
        refine j_iadd K dX7_feed_71 ?_
        refine j_sipush (v := (160 : Int32)) K dX7_feed_72 (by decide) ?_
        refine j_icmp_le K dX7_feed_75 (fun c75 => ?_) (fun c75 => ?_)
        · replace h := it c75 h
          refine j_iconst (v := (0 : Int32)) K dX7_feed_81 (by decide) ?_
          refine j_istore (lv' := [(8, vI (0 : Int32)), (7, vI s0), (0, vR (some o)), (1, vI x1), (2, vI x2), (3, vI x3), (4, vI x4), (5, vI x5), (6, vI x6)]) K dX7_feed_82 X.2.2.1 (by decide) rfl ?_
          exact j_sub [2, 3, 4, 5, 6, 7, 8, 0] rfl (w_X7_feed_84 K X _ _ _ h)
        · replace h := ie c75 h
          refine j_bipush (v := (-4 : Int32)) K dX7_feed_78 (by decide) ?_
          exact j_iret K X dX7_feed_80 h
      · replace h := it c57 h
        exact j_sub [] rfl (w_X7_feed_60 K X h)
def B_X7_feed_42 (fu : Nat) (o : Nat) (S : Hp) (x1 : Int32) (x2 : Int32) (x3 : Int32) (x4 : Int32) (x5 : Int32) (x6 : Int32) : Option (Int32 × Hp) :=
  B_X7_feed_43 fu o S x1 x2 x3 x4 x5 x6 (0 : Int32)
set_option maxRecDepth 100000 in
set_option maxHeartbeats 4000000 in
theorem w_X7_feed_42 {E : Cx} {l : Launch} {res : Int32 × Hp} {ad : Nat → Nat} {fu : Nat} {o : Nat} {S : Hp} {x1 : Int32} {x2 : Int32} {x3 : Int32} {x4 : Int32} {x5 : Int32} {x6 : Int32} (K : Kx E cX7_feed RX7 (rmd 2 0 0)) (X : Bx E l yX7_feed 9 (some .int) 0 0 ad (QI res)) (h : B_X7_feed_42 fu o S x1 x2 x3 x4 x5 x6 = some res) : J E 0 0 42 [(0, vR (some o)), (1, vI x1), (2, vI x2), (3, vI x3), (4, vI x4), (5, vI x5), (6, vI x6)] [] S ad := by
  refine j_iconst (v := (0 : Int32)) K dX7_feed_42 (by decide) ?_
  exact w_X7_feed_43 K X h
def F_X7_feed (fu : Nat) (S : Hp) (o : Nat) (x1 : Int32) (x2 : Int32) (x3 : Int32) (x4 : Int32) (x5 : Int32) (x6 : Int32) : Option (Int32 × Hp) :=
  b2 (F_X7_isByte S x2) fun v1 S1 =>
  if v1 = 0 then
    B_X7_feed_42 fu o S1 x1 x2 x3 x4 x5 x6
  else
    b2 (F_X7_isByte S1 x3) fun v8 S8 =>
    if v8 = 0 then
      B_X7_feed_42 fu o S8 x1 x2 x3 x4 x5 x6
    else
      b2 (F_X7_isByte S8 x4) fun v16 S16 =>
      if v16 = 0 then
        B_X7_feed_42 fu o S16 x1 x2 x3 x4 x5 x6
      else
        b2 (F_X7_isByte S16 x5) fun v24 S24 =>
        if v24 = 0 then
          B_X7_feed_42 fu o S24 x1 x2 x3 x4 x5 x6
        else
          b2 (F_X7_isByte S24 x6) fun v32 S32 =>
          if v32 = 0 then
            B_X7_feed_42 fu o S32 x1 x2 x3 x4 x5 x6
          else
            B_X7_feed_43 fu o S32 x1 x2 x3 x4 x5 x6 (1 : Int32)
set_option maxRecDepth 100000 in
set_option maxHeartbeats 4000000 in
theorem w_X7_feed {E : Cx} {l : Launch} {res : Int32 × Hp} {ad : Nat → Nat} {fu : Nat} {S : Hp} {o : Nat} {x1 : Int32} {x2 : Int32} {x3 : Int32} {x4 : Int32} {x5 : Int32} {x6 : Int32} (K : Kx E cX7_feed RX7 (rmd 2 0 0)) (X : Bx E l yX7_feed 9 (some .int) 0 0 ad (QI res)) (h : F_X7_feed fu S o x1 x2 x3 x4 x5 x6 = some res) : J E 0 0 0 [(0, vR (some o)), (1, vI x1), (2, vI x2), (3, vI x3), (4, vI x4), (5, vI x5), (6, vI x6)] [] S ad := by
  refine j_iload_n K dX7_feed_0 rfl 2 rfl ?_
  obtain ⟨v1, S1, e1, h⟩ := bd2 h
  refine j_cI (st := []) K (r_S (vs := [vI x2]) (n := 1) K (c_X7_isByte e1) dX7_feed_1 z441 z442 z1 z443 ⟨zd_X7_isByte, rfl, rfl, rfl, ⟨Nat.le_of_ble_eq_true rfl, Nat.le_of_ble_eq_true rfl⟩, Nat.le_of_ble_eq_true rfl, Nat.le_of_ble_eq_true rfl, Nat.le_of_ble_eq_true rfl⟩) rfl ?_
  refine j_if_eq K dX7_feed_4 (fun c4 => ?_) (fun c4 => ?_)
  · replace h := it c4 h
    exact w_X7_feed_42 K X h
  · replace h := ie c4 h
    refine j_iload_n K dX7_feed_7 rfl 3 rfl ?_
    obtain ⟨v8, S8, e8, h⟩ := bd2 h
    refine j_cI (st := []) K (r_S (vs := [vI x3]) (n := 1) K (c_X7_isByte e8) dX7_feed_8 z441 z442 z1 z443 ⟨zd_X7_isByte, rfl, rfl, rfl, ⟨Nat.le_of_ble_eq_true rfl, Nat.le_of_ble_eq_true rfl⟩, Nat.le_of_ble_eq_true rfl, Nat.le_of_ble_eq_true rfl, Nat.le_of_ble_eq_true rfl⟩) rfl ?_
    refine j_if_eq K dX7_feed_11 (fun c11 => ?_) (fun c11 => ?_)
    · replace h := it c11 h
      exact w_X7_feed_42 K X h
    · replace h := ie c11 h
      refine j_iload K dX7_feed_14 4 rfl ?_
      obtain ⟨v16, S16, e16, h⟩ := bd2 h
      refine j_cI (st := []) K (r_S (vs := [vI x4]) (n := 1) K (c_X7_isByte e16) dX7_feed_16 z441 z442 z1 z443 ⟨zd_X7_isByte, rfl, rfl, rfl, ⟨Nat.le_of_ble_eq_true rfl, Nat.le_of_ble_eq_true rfl⟩, Nat.le_of_ble_eq_true rfl, Nat.le_of_ble_eq_true rfl, Nat.le_of_ble_eq_true rfl⟩) rfl ?_
      refine j_if_eq K dX7_feed_19 (fun c19 => ?_) (fun c19 => ?_)
      · replace h := it c19 h
        exact w_X7_feed_42 K X h
      · replace h := ie c19 h
        refine j_iload K dX7_feed_22 5 rfl ?_
        obtain ⟨v24, S24, e24, h⟩ := bd2 h
        refine j_cI (st := []) K (r_S (vs := [vI x5]) (n := 1) K (c_X7_isByte e24) dX7_feed_24 z441 z442 z1 z443 ⟨zd_X7_isByte, rfl, rfl, rfl, ⟨Nat.le_of_ble_eq_true rfl, Nat.le_of_ble_eq_true rfl⟩, Nat.le_of_ble_eq_true rfl, Nat.le_of_ble_eq_true rfl, Nat.le_of_ble_eq_true rfl⟩) rfl ?_
        refine j_if_eq K dX7_feed_27 (fun c27 => ?_) (fun c27 => ?_)
        · replace h := it c27 h
          exact w_X7_feed_42 K X h
        · replace h := ie c27 h
          refine j_iload K dX7_feed_30 6 rfl ?_
          obtain ⟨v32, S32, e32, h⟩ := bd2 h
          refine j_cI (st := []) K (r_S (vs := [vI x6]) (n := 1) K (c_X7_isByte e32) dX7_feed_32 z441 z442 z1 z443 ⟨zd_X7_isByte, rfl, rfl, rfl, ⟨Nat.le_of_ble_eq_true rfl, Nat.le_of_ble_eq_true rfl⟩, Nat.le_of_ble_eq_true rfl, Nat.le_of_ble_eq_true rfl, Nat.le_of_ble_eq_true rfl⟩) rfl ?_
          refine j_if_eq K dX7_feed_35 (fun c35 => ?_) (fun c35 => ?_)
          · replace h := it c35 h
            exact w_X7_feed_42 K X h
          · replace h := ie c35 h
            refine j_iconst (v := (1 : Int32)) K dX7_feed_38 (by decide) ?_
            refine j_goto K dX7_feed_39 ?_
            exact w_X7_feed_43 K X h
theorem c_X7_feed {l : Launch} {fu : Nat} {S : Hp} {o : Nat} {x1 : Int32} {x2 : Int32} {x3 : Int32} {x4 : Int32} {x5 : Int32} {x6 : Int32} {res : Int32 × Hp} (h : F_X7_feed fu S o x1 x2 x3 x4 x5 x6 = some res) : Ct l yX7_feed cX7_feed 9 (some .int) (rmd 2 0 0) 0 0 [vR (some o), vI x1, vI x2, vI x3, vI x4, vI x5, vI x6] S (QI res) :=
  z_entry (by decide +kernel) (Nat.le_of_ble_eq_true rfl) (fun E ad K X => w_X7_feed K X h)

theorem dX7_text_0 : decode cX7_text 0 = .ok (.aload_n 0, 1) ∧ 0 + 1 = 1 := ⟨by decide +kernel, rfl⟩
theorem dX7_text_1 : decode cX7_text 1 = .ok (.getfield 48, 3) ∧ 1 + 3 = 4 := ⟨by decide +kernel, rfl⟩
theorem dX7_text_4 : decode cX7_text 4 = .ok (.aload_n 0, 1) ∧ 4 + 1 = 5 := ⟨by decide +kernel, rfl⟩
theorem dX7_text_5 : decode cX7_text 5 = .ok (.getfield 44, 3) ∧ 5 + 3 = 8 := ⟨by decide +kernel, rfl⟩
theorem dX7_text_8 : decode cX7_text 8 = .ok (.arraylength, 1) ∧ 8 + 1 = 9 := ⟨by decide +kernel, rfl⟩
theorem dX7_text_9 : decode cX7_text 9 = .ok (.if_icmp .lt 6, 3) ∧ 9 + 3 = 12 ∧ ((9 : Nat) : Int) + (6) = ((15 : Nat) : Int) := ⟨by decide +kernel, rfl, by decide⟩
theorem dX7_text_12 : decode cX7_text 12 = .ok (.bipush (-4), 2) ∧ 12 + 2 = 14 := ⟨by decide +kernel, rfl⟩
theorem dX7_text_14 : decode cX7_text 14 = .ok (.ireturn, 1) := by decide +kernel
theorem dX7_text_15 : decode cX7_text 15 = .ok (.aload_n 0, 1) ∧ 15 + 1 = 16 := ⟨by decide +kernel, rfl⟩
theorem dX7_text_16 : decode cX7_text 16 = .ok (.getfield 38, 3) ∧ 16 + 3 = 19 := ⟨by decide +kernel, rfl⟩
theorem dX7_text_19 : decode cX7_text 19 = .ok (.invokevirtual 79, 3) := by decide +kernel
theorem dX7_text_22 : decode cX7_text 22 = .ok (.astore_n 1, 1) ∧ 22 + 1 = 23 := ⟨by decide +kernel, rfl⟩
theorem dX7_text_23 : decode cX7_text 23 = .ok (.aload_n 0, 1) ∧ 23 + 1 = 24 := ⟨by decide +kernel, rfl⟩
theorem dX7_text_24 : decode cX7_text 24 = .ok (.getfield 29, 3) ∧ 24 + 3 = 27 := ⟨by decide +kernel, rfl⟩
theorem dX7_text_27 : decode cX7_text 27 = .ok (.invokevirtual 83, 3) := by decide +kernel
theorem dX7_text_30 : decode cX7_text 30 = .ok (.aload_n 1, 1) ∧ 30 + 1 = 31 := ⟨by decide +kernel, rfl⟩
theorem dX7_text_31 : decode cX7_text 31 = .ok (.ifnonnull 14, 3) ∧ 31 + 3 = 34 ∧ ((31 : Nat) : Int) + (14) = ((45 : Nat) : Int) := ⟨by decide +kernel, rfl, by decide⟩
theorem dX7_text_34 : decode cX7_text 34 = .ok (.bipush (-100), 2) ∧ 34 + 2 = 36 := ⟨by decide +kernel, rfl⟩
theorem dX7_text_36 : decode cX7_text 36 = .ok (.aload_n 0, 1) ∧ 36 + 1 = 37 := ⟨by decide +kernel, rfl⟩
theorem dX7_text_37 : decode cX7_text 37 = .ok (.getfield 38, 3) ∧ 37 + 3 = 40 := ⟨by decide +kernel, rfl⟩
theorem dX7_text_40 : decode cX7_text 40 = .ok (.getfield 132, 3) ∧ 40 + 3 = 43 := ⟨by decide +kernel, rfl⟩
theorem dX7_text_43 : decode cX7_text 43 = .ok (.isub, 1) ∧ 43 + 1 = 44 := ⟨by decide +kernel, rfl⟩
theorem dX7_text_44 : decode cX7_text 44 = .ok (.ireturn, 1) := by decide +kernel
theorem dX7_text_45 : decode cX7_text 45 = .ok (.aload_n 0, 1) ∧ 45 + 1 = 46 := ⟨by decide +kernel, rfl⟩
theorem dX7_text_46 : decode cX7_text 46 = .ok (.getfield 44, 3) ∧ 46 + 3 = 49 := ⟨by decide +kernel, rfl⟩
theorem dX7_text_49 : decode cX7_text 49 = .ok (.aload_n 0, 1) ∧ 49 + 1 = 50 := ⟨by decide +kernel, rfl⟩
theorem dX7_text_50 : decode cX7_text 50 = .ok (.getfield 48, 3) ∧ 50 + 3 = 53 := ⟨by decide +kernel, rfl⟩
theorem dX7_text_53 : decode cX7_text 53 = .ok (.aload_n 1, 1) ∧ 53 + 1 = 54 := ⟨by decide +kernel, rfl⟩
theorem dX7_text_54 : decode cX7_text 54 = .ok (.aastore, 1) ∧ 54 + 1 = 55 := ⟨by decide +kernel, rfl⟩
theorem dX7_text_55 : decode cX7_text 55 = .ok (.aload_n 0, 1) ∧ 55 + 1 = 56 := ⟨by decide +kernel, rfl⟩
theorem dX7_text_56 : decode cX7_text 56 = .ok (.dup, 1) ∧ 56 + 1 = 57 := ⟨by decide +kernel, rfl⟩
theorem dX7_text_57 : decode cX7_text 57 = .ok (.getfield 48, 3) ∧ 57 + 3 = 60 := ⟨by decide +kernel, rfl⟩
theorem dX7_text_60 : decode cX7_text 60 = .ok (.iconst 1, 1) ∧ 60 + 1 = 61 := ⟨by decide +kernel, rfl⟩
theorem dX7_text_61 : decode cX7_text 61 = .ok (.iadd, 1) ∧ 61 + 1 = 62 := ⟨by decide +kernel, rfl⟩
theorem dX7_text_62 : decode cX7_text 62 = .ok (.putfield 48, 3) ∧ 62 + 3 = 65 := ⟨by decide +kernel, rfl⟩
theorem dX7_text_65 : decode cX7_text 65 = .ok (.aload_n 0, 1) ∧ 65 + 1 = 66 := ⟨by decide +kernel, rfl⟩
theorem dX7_text_66 : decode cX7_text 66 = .ok (.getfield 48, 3) ∧ 66 + 3 = 69 := ⟨by decide +kernel, rfl⟩
theorem dX7_text_69 : decode cX7_text 69 = .ok (.iconst 1, 1) ∧ 69 + 1 = 70 := ⟨by decide +kernel, rfl⟩
theorem dX7_text_70 : decode cX7_text 70 = .ok (.isub, 1) ∧ 70 + 1 = 71 := ⟨by decide +kernel, rfl⟩
theorem dX7_text_71 : decode cX7_text 71 = .ok (.ireturn, 1) := by decide +kernel
def F_X7_text (fu : Nat) (S : Hp) (o : Nat) : Option (Int32 × Hp) :=
  (gI S (some o) 5 7).bind fun v1 =>
  (gR S (some o) 5 6).bind fun v5 =>
  (aL S v5 8).bind fun v8 =>
  if v1 < v8 then
    (gR S (some o) 5 5).bind fun v16 =>
    (ob S 2 v16).bind fun o19 =>
    (chn S.1 S [(some o)]).bind fun _ =>
    b2 (F_X3_read fu S o19) fun v19 S19 =>
    (gR S19 (some o) 5 4).bind fun v24 =>
    (ob S19 4 v24).bind fun o27 =>
    (F_X6_empty S19 o27).bind fun S27 =>
    if v19 = none then
      (gR S27 (some o) 5 5).bind fun v37 =>
      (gI S27 v37 2 1).bind fun v40 =>
      some (((-100 : Int32) - v40), S27)
    else
      (gR S27 (some o) 5 6).bind fun v46 =>
      (gI S27 (some o) 5 7).bind fun v50 =>
      (rP S27 v46 8 1 v50 v19).bind fun S54 =>
      (gI S54 (some o) 5 7).bind fun v57 =>
      (pI S54 (some o) 5 7 (v57 + (1 : Int32))).bind fun S62 =>
      (gI S62 (some o) 5 7).bind fun v66 =>
      some ((v66 - (1 : Int32)), S62)
  else
    some ((-4 : Int32), S)
set_option maxRecDepth 100000 in
set_option maxHeartbeats 4000000 in
theorem w_X7_text {E : Cx} {l : Launch} {res : Int32 × Hp} {ad : Nat → Nat} {fu : Nat} {S : Hp} {o : Nat} (K : Kx E cX7_text RX7 (rmd 71 4 326)) (X : Bx E l yX7_text 2 (some .int) 4 326 ad (QIa S.1 res)) (h : F_X7_text fu S o = some res) : J E 0 0 0 [(0, vR (some o))] [] S ad := by
  have he : ∀ k, k < S.1 → ad k = ad k := fun _ _ => rfl
  refine j_aload_n K dX7_text_0 rfl 0 rfl ?_
  obtain ⟨v1, e1, h⟩ := bd h
  refine fgX7_48 K dX7_text_1 e1 ?_
  refine j_aload_n K dX7_text_4 rfl 0 rfl ?_
  obtain ⟨v5, e5, h⟩ := bd h
  refine fgX7_44 K dX7_text_5 e5 ?_
  obtain ⟨v8, e8, h⟩ := bd h
  refine j_aL K (by decide) dX7_text_8 e8 ?_
  refine j_icmp_lt K dX7_text_9 (fun c9 => ?_) (fun c9 => ?_)
  · replace h := it c9 h
    refine j_aload_n K dX7_text_15 rfl 0 rfl ?_
    obtain ⟨v16, e16, h⟩ := bd h
    refine fgX7_38 K dX7_text_16 e16 ?_
    obtain ⟨o19, ew19, hz19⟩ := bd h
    obtain ⟨er19, ho19⟩ := ob_some ew19
    subst er19
    have h := hz19
    obtain ⟨u19, q19, h⟩ := bd h
    obtain ⟨v19, S19, e19, h⟩ := bd2 h
    refine j_cRa (st := []) K (r_V (vs := []) (n := 0) (o := o19) K (c_X3_read e19) ho19 (by decide) rfl dX7_text_19 z218 z219 z220 z4 z221 ⟨zd_X3_read, rfl, rfl, rfl, ⟨Nat.le_of_ble_eq_true rfl, Nat.le_of_ble_eq_true rfl⟩, Nat.le_of_ble_eq_true rfl, Nat.le_of_ble_eq_true rfl, Nat.le_of_ble_eq_true rfl⟩) rfl rfl q19 (fun ad19 a19 => ?_)
    have he19 := heX q19 a19 he
    refine j_astore_n (lv' := [(1, vR v19), (0, vR (some o))]) K dX7_text_22 rfl X.2.2.1 (by decide) rfl ?_
    refine j_aload_n K dX7_text_23 rfl 1 rfl ?_
    obtain ⟨v24, e24, h⟩ := bd h
    refine fgX7_29 K dX7_text_24 e24 ?_
    obtain ⟨o27, ew27, hz27⟩ := bd h
    obtain ⟨er27, ho27⟩ := ob_some ew27
    subst er27
    have h := hz27
    obtain ⟨S27, e27, h⟩ := bd h
    refine j_cV (st := []) K (r_V (vs := []) (n := 0) (o := o27) K (c_X6_empty e27) ho27 (by decide) rfl dX7_text_27 z364 z365 z366 z3 z367 ⟨zd_X6_empty, rfl, rfl, rfl, ⟨Nat.le_of_ble_eq_true rfl, Nat.le_of_ble_eq_true rfl⟩, Nat.le_of_ble_eq_true rfl, Nat.le_of_ble_eq_true rfl, Nat.le_of_ble_eq_true rfl⟩) rfl ?_
    refine j_aload_n K dX7_text_30 rfl 0 rfl ?_
    refine j_ifnonnull K dX7_text_31 (fun c31 => ?_) (fun c31 => ?_)
    · replace h := ie c31 h
      refine j_aload_n K dX7_text_45 rfl 1 rfl ?_
      obtain ⟨v46, e46, h⟩ := bd h
      refine fgX7_44 K dX7_text_46 e46 ?_
      refine j_aload_n K dX7_text_49 rfl 1 rfl ?_
      obtain ⟨v50, e50, h⟩ := bd h
      refine fgX7_48 K dX7_text_50 e50 ?_
      refine j_aload_n K dX7_text_53 rfl 0 rfl ?_
      obtain ⟨S54, e54, h⟩ := bd h
      refine j_rP K (by decide) dX7_text_54 e54 ?_
      refine j_aload_n K dX7_text_55 rfl 1 rfl ?_
      refine j_dup K dX7_text_56 rfl ?_
      obtain ⟨v57, e57, h⟩ := bd h
      refine fgX7_48 K dX7_text_57 e57 ?_
      refine j_iconst (v := (1 : Int32)) K dX7_text_60 (by decide) ?_
      refine j_iadd K dX7_text_61 ?_
      obtain ⟨S62, e62, h⟩ := bd h
      refine fpX7_48 K dX7_text_62 e62 ?_
      refine j_aload_n K dX7_text_65 rfl 1 rfl ?_
      obtain ⟨v66, e66, h⟩ := bd h
      refine fgX7_48 K dX7_text_66 e66 ?_
      refine j_iconst (v := (1 : Int32)) K dX7_text_69 (by decide) ?_
      refine j_isub K dX7_text_70 ?_
      exact j_iretA K X he19 dX7_text_71 (Nat.le_of_ble_eq_true rfl) (Nat.le_of_ble_eq_true rfl) h
    · replace h := it c31 h
      refine j_bipush (v := (-100 : Int32)) K dX7_text_34 (by decide) ?_
      refine j_aload_n K dX7_text_36 rfl 1 rfl ?_
      obtain ⟨v37, e37, h⟩ := bd h
      refine fgX7_38 K dX7_text_37 e37 ?_
      obtain ⟨v40, e40, h⟩ := bd h
      refine fgX7_132 K dX7_text_40 e40 ?_
      refine j_isub K dX7_text_43 ?_
      exact j_iretA K X he19 dX7_text_44 (Nat.le_of_ble_eq_true rfl) (Nat.le_of_ble_eq_true rfl) h
  · replace h := ie c9 h
    refine j_bipush (v := (-4 : Int32)) K dX7_text_12 (by decide) ?_
    exact j_iretA K X he dX7_text_14 (Nat.le_of_ble_eq_true rfl) (Nat.le_of_ble_eq_true rfl) h
theorem c_X7_text {l : Launch} {fu : Nat} {S : Hp} {o : Nat} {res : Int32 × Hp} (h : F_X7_text fu S o = some res) : Ct l yX7_text cX7_text 2 (some .int) (rmd 71 4 326) 4 326 [vR (some o)] S (QIa S.1 res) :=
  z_entry (by decide +kernel) (Nat.le_of_ble_eq_true rfl) (fun E ad K X => w_X7_text K X h)

theorem dX7_textAt_0 : decode cX7_textAt 0 = .ok (.iload_n 1, 1) ∧ 0 + 1 = 1 := ⟨by decide +kernel, rfl⟩
theorem dX7_textAt_1 : decode cX7_textAt 1 = .ok (.ifCond .lt 21, 3) ∧ 1 + 3 = 4 ∧ ((1 : Nat) : Int) + (21) = ((22 : Nat) : Int) := ⟨by decide +kernel, rfl, by decide⟩
theorem dX7_textAt_4 : decode cX7_textAt 4 = .ok (.iload_n 1, 1) ∧ 4 + 1 = 5 := ⟨by decide +kernel, rfl⟩
theorem dX7_textAt_5 : decode cX7_textAt 5 = .ok (.aload_n 0, 1) ∧ 5 + 1 = 6 := ⟨by decide +kernel, rfl⟩
theorem dX7_textAt_6 : decode cX7_textAt 6 = .ok (.getfield 44, 3) ∧ 6 + 3 = 9 := ⟨by decide +kernel, rfl⟩
theorem dX7_textAt_9 : decode cX7_textAt 9 = .ok (.arraylength, 1) ∧ 9 + 1 = 10 := ⟨by decide +kernel, rfl⟩
theorem dX7_textAt_10 : decode cX7_textAt 10 = .ok (.if_icmp .ge 12, 3) ∧ 10 + 3 = 13 ∧ ((10 : Nat) : Int) + (12) = ((22 : Nat) : Int) := ⟨by decide +kernel, rfl, by decide⟩
theorem dX7_textAt_13 : decode cX7_textAt 13 = .ok (.aload_n 0, 1) ∧ 13 + 1 = 14 := ⟨by decide +kernel, rfl⟩
theorem dX7_textAt_14 : decode cX7_textAt 14 = .ok (.getfield 44, 3) ∧ 14 + 3 = 17 := ⟨by decide +kernel, rfl⟩
theorem dX7_textAt_17 : decode cX7_textAt 17 = .ok (.iload_n 1, 1) ∧ 17 + 1 = 18 := ⟨by decide +kernel, rfl⟩
theorem dX7_textAt_18 : decode cX7_textAt 18 = .ok (.aaload, 1) ∧ 18 + 1 = 19 := ⟨by decide +kernel, rfl⟩
theorem dX7_textAt_19 : decode cX7_textAt 19 = .ok (.goto 4, 3) ∧ ((19 : Nat) : Int) + (4) = ((23 : Nat) : Int) := ⟨by decide +kernel, by decide⟩
theorem dX7_textAt_22 : decode cX7_textAt 22 = .ok (.aconst_null, 1) ∧ 22 + 1 = 23 := ⟨by decide +kernel, rfl⟩
theorem dX7_textAt_23 : decode cX7_textAt 23 = .ok (.areturn, 1) := by decide +kernel
def B_X7_textAt_23 (o : Nat) (S : Hp) (s0 : Option Nat) : Option (Option Nat × Hp) :=
  some (s0, S)
set_option maxRecDepth 100000 in
set_option maxHeartbeats 4000000 in
theorem w_X7_textAt_23 {E : Cx} {l : Launch} {res : Option Nat × Hp} {ad : Nat → Nat} {o : Nat} {S : Hp} {s0 : Option Nat} (K : Kx E cX7_textAt RX7 (rmd 0 0 0)) (X : Bx E l yX7_textAt 2 (some (.object "DrumOfGuilt$Law")) 0 0 ad (QR res)) (h : B_X7_textAt_23 o S s0 = some res) : J E 0 0 23 [] [vR s0] S ad := by
  exact j_rret K X dX7_textAt_23 h
def B_X7_textAt_22 (o : Nat) (S : Hp) : Option (Option Nat × Hp) :=
  B_X7_textAt_23 o S none
set_option maxRecDepth 100000 in
set_option maxHeartbeats 4000000 in
theorem w_X7_textAt_22 {E : Cx} {l : Launch} {res : Option Nat × Hp} {ad : Nat → Nat} {o : Nat} {S : Hp} (K : Kx E cX7_textAt RX7 (rmd 0 0 0)) (X : Bx E l yX7_textAt 2 (some (.object "DrumOfGuilt$Law")) 0 0 ad (QR res)) (h : B_X7_textAt_22 o S = some res) : J E 0 0 22 [] [] S ad := by
  refine j_null K dX7_textAt_22 ?_
  exact w_X7_textAt_23 K X h
def F_X7_textAt (S : Hp) (o : Nat) (x1 : Int32) : Option (Option Nat × Hp) :=
  if x1 < 0 then
    B_X7_textAt_22 o S
  else
    (gR S (some o) 5 6).bind fun v6 =>
    (aL S v6 8).bind fun v9 =>
    if v9 ≤ x1 then
      B_X7_textAt_22 o S
    else
      (gR S (some o) 5 6).bind fun v14 =>
      (rG S v14 8 x1).bind fun v18 =>
      B_X7_textAt_23 o S v18
set_option maxRecDepth 100000 in
set_option maxHeartbeats 4000000 in
theorem w_X7_textAt {E : Cx} {l : Launch} {res : Option Nat × Hp} {ad : Nat → Nat} {S : Hp} {o : Nat} {x1 : Int32} (K : Kx E cX7_textAt RX7 (rmd 0 0 0)) (X : Bx E l yX7_textAt 2 (some (.object "DrumOfGuilt$Law")) 0 0 ad (QR res)) (h : F_X7_textAt S o x1 = some res) : J E 0 0 0 [(0, vR (some o)), (1, vI x1)] [] S ad := by
  refine j_iload_n K dX7_textAt_0 rfl 1 rfl ?_
  refine j_if_lt K dX7_textAt_1 (fun c1 => ?_) (fun c1 => ?_)
  · replace h := it c1 h
    exact j_sub [] rfl (w_X7_textAt_22 K X h)
  · replace h := ie c1 h
    refine j_iload_n K dX7_textAt_4 rfl 1 rfl ?_
    refine j_aload_n K dX7_textAt_5 rfl 0 rfl ?_
    obtain ⟨v6, e6, h⟩ := bd h
    refine fgX7_44 K dX7_textAt_6 e6 ?_
    obtain ⟨v9, e9, h⟩ := bd h
    refine j_aL K (by decide) dX7_textAt_9 e9 ?_
    refine j_icmp_ge K dX7_textAt_10 (fun c10 => ?_) (fun c10 => ?_)
    · replace h := it c10 h
      exact j_sub [] rfl (w_X7_textAt_22 K X h)
    · replace h := ie c10 h
      refine j_aload_n K dX7_textAt_13 rfl 0 rfl ?_
      obtain ⟨v14, e14, h⟩ := bd h
      refine fgX7_44 K dX7_textAt_14 e14 ?_
      refine j_iload_n K dX7_textAt_17 rfl 1 rfl ?_
      obtain ⟨v18, e18, h⟩ := bd h
      refine j_rG K (by decide) dX7_textAt_18 e18 ?_
      refine j_goto K dX7_textAt_19 ?_
      exact j_sub [] rfl (w_X7_textAt_23 K X h)
theorem c_X7_textAt {l : Launch} {S : Hp} {o : Nat} {x1 : Int32} {res : Option Nat × Hp} (h : F_X7_textAt S o x1 = some res) : Ct l yX7_textAt cX7_textAt 2 (some (.object "DrumOfGuilt$Law")) (rmd 0 0 0) 0 0 [vR (some o), vI x1] S (QR res) :=
  z_entry (by decide +kernel) (Nat.le_of_ble_eq_true rfl) (fun E ad K X => w_X7_textAt K X h)

theorem dX7_force_0 : decode cX7_force 0 = .ok (.iload_n 1, 1) ∧ 0 + 1 = 1 := ⟨by decide +kernel, rfl⟩
theorem dX7_force_1 : decode cX7_force 1 = .ok (.aload_n 0, 1) ∧ 1 + 1 = 2 := ⟨by decide +kernel, rfl⟩
theorem dX7_force_2 : decode cX7_force 2 = .ok (.getfield 48, 3) ∧ 2 + 3 = 5 := ⟨by decide +kernel, rfl⟩
theorem dX7_force_5 : decode cX7_force 5 = .ok (.invokestatic 135, 3) := by decide +kernel
theorem dX7_force_8 : decode cX7_force 8 = .ok (.ifCond .ne 6, 3) ∧ 8 + 3 = 11 ∧ ((8 : Nat) : Int) + (6) = ((14 : Nat) : Int) := ⟨by decide +kernel, rfl, by decide⟩
theorem dX7_force_11 : decode cX7_force 11 = .ok (.bipush (-2), 2) ∧ 11 + 2 = 13 := ⟨by decide +kernel, rfl⟩
theorem dX7_force_13 : decode cX7_force 13 = .ok (.ireturn, 1) := by decide +kernel
theorem dX7_force_14 : decode cX7_force 14 = .ok (.aload_n 0, 1) ∧ 14 + 1 = 15 := ⟨by decide +kernel, rfl⟩
theorem dX7_force_15 : decode cX7_force 15 = .ok (.getfield 10, 3) ∧ 15 + 3 = 18 := ⟨by decide +kernel, rfl⟩
theorem dX7_force_18 : decode cX7_force 18 = .ok (.getfield 99, 3) ∧ 18 + 3 = 21 := ⟨by decide +kernel, rfl⟩
theorem dX7_force_21 : decode cX7_force 21 = .ok (.istore_n 2, 1) ∧ 21 + 1 = 22 := ⟨by decide +kernel, rfl⟩
theorem dX7_force_22 : decode cX7_force 22 = .ok (.aload_n 0, 1) ∧ 22 + 1 = 23 := ⟨by decide +kernel, rfl⟩
theorem dX7_force_23 : decode cX7_force 23 = .ok (.getfield 10, 3) ∧ 23 + 3 = 26 := ⟨by decide +kernel, rfl⟩
theorem dX7_force_26 : decode cX7_force 26 = .ok (.iload_n 1, 1) ∧ 26 + 1 = 27 := ⟨by decide +kernel, rfl⟩
theorem dX7_force_27 : decode cX7_force 27 = .ok (.aload_n 0, 1) ∧ 27 + 1 = 28 := ⟨by decide +kernel, rfl⟩
theorem dX7_force_28 : decode cX7_force 28 = .ok (.iload_n 1, 1) ∧ 28 + 1 = 29 := ⟨by decide +kernel, rfl⟩
theorem dX7_force_29 : decode cX7_force 29 = .ok (.invokevirtual 139, 3) := by decide +kernel
theorem dX7_force_32 : decode cX7_force 32 = .ok (.invokevirtual 86, 3) := by decide +kernel
theorem dX7_force_35 : decode cX7_force 35 = .ok (.iload_n 2, 1) ∧ 35 + 1 = 36 := ⟨by decide +kernel, rfl⟩
theorem dX7_force_36 : decode cX7_force 36 = .ok (.ireturn, 1) := by decide +kernel
def F_X7_force (S : Hp) (o : Nat) (x1 : Int32) : Option (Int32 × Hp) :=
  (gI S (some o) 5 7).bind fun v2 =>
  b2 (F_X7_fits S x1 v2) fun v5 S5 =>
  if v5 = 0 then
    some ((-2 : Int32), S5)
  else
    (gR S5 (some o) 5 0).bind fun v15 =>
    (gI S5 v15 0 10).bind fun v18 =>
    (gR S5 (some o) 5 0).bind fun v23 =>
    (ob S5 5 (some o)).bind fun _ =>
    b2 (F_X7_textAt S5 o x1) fun v29 S29 =>
    (ob S29 0 v23).bind fun o32 =>
    (F_X0_rule S29 o32 x1 v29).bind fun S32 =>
    some (v18, S32)
set_option maxRecDepth 100000 in
set_option maxHeartbeats 4000000 in
theorem w_X7_force {E : Cx} {l : Launch} {res : Int32 × Hp} {ad : Nat → Nat} {S : Hp} {o : Nat} {x1 : Int32} (K : Kx E cX7_force RX7 (rmd 1 0 0)) (X : Bx E l yX7_force 3 (some .int) 0 0 ad (QI res)) (h : F_X7_force S o x1 = some res) : J E 0 0 0 [(0, vR (some o)), (1, vI x1)] [] S ad := by
  refine j_iload_n K dX7_force_0 rfl 1 rfl ?_
  refine j_aload_n K dX7_force_1 rfl 0 rfl ?_
  obtain ⟨v2, e2, h⟩ := bd h
  refine fgX7_48 K dX7_force_2 e2 ?_
  obtain ⟨v5, S5, e5, h⟩ := bd2 h
  refine j_cI (st := []) K (r_S (vs := [vI x1, vI v2]) (n := 2) K (c_X7_fits e5) dX7_force_5 z444 z425 z1 z426 ⟨zd_X7_fits, rfl, rfl, rfl, ⟨Nat.le_of_ble_eq_true rfl, Nat.le_of_ble_eq_true rfl⟩, Nat.le_of_ble_eq_true rfl, Nat.le_of_ble_eq_true rfl, Nat.le_of_ble_eq_true rfl⟩) rfl ?_
  refine j_if_ne K dX7_force_8 (fun c8 => ?_) (fun c8 => ?_)
  · replace h := ie c8 h
    refine j_aload_n K dX7_force_14 rfl 0 rfl ?_
    obtain ⟨v15, e15, h⟩ := bd h
    refine fgX7_10 K dX7_force_15 e15 ?_
    obtain ⟨v18, e18, h⟩ := bd h
    refine fgX7_99 K dX7_force_18 e18 ?_
    refine j_istore_n (lv' := [(2, vI v18), (0, vR (some o)), (1, vI x1)]) K dX7_force_21 rfl X.2.2.1 (by decide) rfl ?_
    refine j_aload_n K dX7_force_22 rfl 1 rfl ?_
    obtain ⟨v23, e23, h⟩ := bd h
    refine fgX7_10 K dX7_force_23 e23 ?_
    refine j_iload_n K dX7_force_26 rfl 2 rfl ?_
    refine j_aload_n K dX7_force_27 rfl 1 rfl ?_
    refine j_iload_n K dX7_force_28 rfl 2 rfl ?_
    obtain ⟨w29, ew29, h⟩ := bd h
    have ho29 := obS ew29
    obtain ⟨v29, S29, e29, h⟩ := bd2 h
    refine j_cR (st := [vI x1, vR v23]) K (r_V (vs := [vI x1]) (n := 1) (o := o) K (c_X7_textAt e29) ho29 (by decide) rfl dX7_force_29 z453 z455 zs17 z1 z456 ⟨zd_X7_textAt, rfl, rfl, rfl, ⟨Nat.le_of_ble_eq_true rfl, Nat.le_of_ble_eq_true rfl⟩, Nat.le_of_ble_eq_true rfl, Nat.le_of_ble_eq_true rfl, Nat.le_of_ble_eq_true rfl⟩) rfl ?_
    obtain ⟨o32, ew32, hz32⟩ := bd h
    obtain ⟨er32, ho32⟩ := ob_some ew32
    subst er32
    have h := hz32
    obtain ⟨S32, e32, h⟩ := bd h
    refine j_cV (st := []) K (r_V (vs := [vI x1, vR v29]) (n := 2) (o := o32) K (c_X0_rule e32) ho32 (by decide) rfl dX7_force_32 z368 z369 z370 z2 z371 ⟨zd_X0_rule, rfl, rfl, rfl, ⟨Nat.le_of_ble_eq_true rfl, Nat.le_of_ble_eq_true rfl⟩, Nat.le_of_ble_eq_true rfl, Nat.le_of_ble_eq_true rfl, Nat.le_of_ble_eq_true rfl⟩) rfl ?_
    refine j_iload_n K dX7_force_35 rfl 0 rfl ?_
    exact j_iret K X dX7_force_36 h
  · replace h := it c8 h
    refine j_bipush (v := (-2 : Int32)) K dX7_force_11 (by decide) ?_
    exact j_iret K X dX7_force_13 h
theorem c_X7_force {l : Launch} {S : Hp} {o : Nat} {x1 : Int32} {res : Int32 × Hp} (h : F_X7_force S o x1 = some res) : Ct l yX7_force cX7_force 3 (some .int) (rmd 1 0 0) 0 0 [vR (some o), vI x1] S (QI res) :=
  z_entry (by decide +kernel) (Nat.le_of_ble_eq_true rfl) (fun E ad K X => w_X7_force K X h)

theorem dX7_asks_0 : decode cX7_asks 0 = .ok (.iload_n 1, 1) ∧ 0 + 1 = 1 := ⟨by decide +kernel, rfl⟩
theorem dX7_asks_1 : decode cX7_asks 1 = .ok (.iconst 3, 1) ∧ 1 + 1 = 2 := ⟨by decide +kernel, rfl⟩
theorem dX7_asks_2 : decode cX7_asks 2 = .ok (.invokestatic 135, 3) := by decide +kernel
theorem dX7_asks_5 : decode cX7_asks 5 = .ok (.ifCond .eq 25, 3) ∧ 5 + 3 = 8 ∧ ((5 : Nat) : Int) + (25) = ((30 : Nat) : Int) := ⟨by decide +kernel, rfl, by decide⟩
theorem dX7_asks_8 : decode cX7_asks 8 = .ok (.aload_n 0, 1) ∧ 8 + 1 = 9 := ⟨by decide +kernel, rfl⟩
theorem dX7_asks_9 : decode cX7_asks 9 = .ok (.getfield 10, 3) ∧ 9 + 3 = 12 := ⟨by decide +kernel, rfl⟩
theorem dX7_asks_12 : decode cX7_asks 12 = .ok (.iload_n 2, 1) ∧ 12 + 1 = 13 := ⟨by decide +kernel, rfl⟩
theorem dX7_asks_13 : decode cX7_asks 13 = .ok (.invokevirtual 143, 3) := by decide +kernel
theorem dX7_asks_16 : decode cX7_asks 16 = .ok (.ifCond .eq 14, 3) ∧ 16 + 3 = 19 ∧ ((16 : Nat) : Int) + (14) = ((30 : Nat) : Int) := ⟨by decide +kernel, rfl, by decide⟩
theorem dX7_asks_19 : decode cX7_asks 19 = .ok (.aload_n 0, 1) ∧ 19 + 1 = 20 := ⟨by decide +kernel, rfl⟩
theorem dX7_asks_20 : decode cX7_asks 20 = .ok (.getfield 10, 3) ∧ 20 + 3 = 23 := ⟨by decide +kernel, rfl⟩
theorem dX7_asks_23 : decode cX7_asks 23 = .ok (.iload_n 3, 1) ∧ 23 + 1 = 24 := ⟨by decide +kernel, rfl⟩
theorem dX7_asks_24 : decode cX7_asks 24 = .ok (.invokevirtual 109, 3) := by decide +kernel
theorem dX7_asks_27 : decode cX7_asks 27 = .ok (.ifCond .ne 6, 3) ∧ 27 + 3 = 30 ∧ ((27 : Nat) : Int) + (6) = ((33 : Nat) : Int) := ⟨by decide +kernel, rfl, by decide⟩
theorem dX7_asks_30 : decode cX7_asks 30 = .ok (.bipush (-2), 2) ∧ 30 + 2 = 32 := ⟨by decide +kernel, rfl⟩
theorem dX7_asks_32 : decode cX7_asks 32 = .ok (.ireturn, 1) := by decide +kernel
theorem dX7_asks_33 : decode cX7_asks 33 = .ok (.aload_n 0, 1) ∧ 33 + 1 = 34 := ⟨by decide +kernel, rfl⟩
theorem dX7_asks_34 : decode cX7_asks 34 = .ok (.getfield 10, 3) ∧ 34 + 3 = 37 := ⟨by decide +kernel, rfl⟩
theorem dX7_asks_37 : decode cX7_asks 37 = .ok (.iload_n 1, 1) ∧ 37 + 1 = 38 := ⟨by decide +kernel, rfl⟩
theorem dX7_asks_38 : decode cX7_asks 38 = .ok (.iload_n 2, 1) ∧ 38 + 1 = 39 := ⟨by decide +kernel, rfl⟩
theorem dX7_asks_39 : decode cX7_asks 39 = .ok (.iload_n 3, 1) ∧ 39 + 1 = 40 := ⟨by decide +kernel, rfl⟩
theorem dX7_asks_40 : decode cX7_asks 40 = .ok (.invokevirtual 146, 3) := by decide +kernel
theorem dX7_asks_43 : decode cX7_asks 43 = .ok (.ireturn, 1) := by decide +kernel
def B_X7_asks_30 (fu : Nat) (o : Nat) (S : Hp) : Option (Int32 × Hp) :=
  some ((-2 : Int32), S)
set_option maxRecDepth 100000 in
set_option maxHeartbeats 4000000 in
theorem w_X7_asks_30 {E : Cx} {l : Launch} {res : Int32 × Hp} {ad : Nat → Nat} {fu : Nat} {o : Nat} {S : Hp} (K : Kx E cX7_asks RX7 (rmd 3 0 0)) (X : Bx E l yX7_asks 4 (some .int) 0 0 ad (QI res)) (h : B_X7_asks_30 fu o S = some res) : J E 0 0 30 [] [] S ad := by
  refine j_bipush (v := (-2 : Int32)) K dX7_asks_30 (by decide) ?_
  exact j_iret K X dX7_asks_32 h
def F_X7_asks (fu : Nat) (S : Hp) (o : Nat) (x1 : Int32) (x2 : Int32) (x3 : Int32) : Option (Int32 × Hp) :=
  b2 (F_X7_fits S x1 (3 : Int32)) fun v2 S2 =>
  if v2 = 0 then
    B_X7_asks_30 fu o S2
  else
    (gR S2 (some o) 5 0).bind fun v9 =>
    (ob S2 0 v9).bind fun o13 =>
    b2 (F_X0_hasPerson S2 o13 x2) fun v13 S13 =>
    if v13 = 0 then
      B_X7_asks_30 fu o S13
    else
      (gR S13 (some o) 5 0).bind fun v20 =>
      (ob S13 0 v20).bind fun o24 =>
      b2 (F_X0_hasWrong S13 o24 x3) fun v24 S24 =>
      if v24 = 0 then
        B_X7_asks_30 fu o S24
      else
        (gR S24 (some o) 5 0).bind fun v34 =>
        (ob S24 0 v34).bind fun o40 =>
        b2 (F_X0_says fu S24 o40 x1 x2 x3) fun v40 S40 =>
        some (v40, S40)
set_option maxRecDepth 100000 in
set_option maxHeartbeats 4000000 in
theorem w_X7_asks {E : Cx} {l : Launch} {res : Int32 × Hp} {ad : Nat → Nat} {fu : Nat} {S : Hp} {o : Nat} {x1 : Int32} {x2 : Int32} {x3 : Int32} (K : Kx E cX7_asks RX7 (rmd 3 0 0)) (X : Bx E l yX7_asks 4 (some .int) 0 0 ad (QI res)) (h : F_X7_asks fu S o x1 x2 x3 = some res) : J E 0 0 0 [(0, vR (some o)), (1, vI x1), (2, vI x2), (3, vI x3)] [] S ad := by
  refine j_iload_n K dX7_asks_0 rfl 1 rfl ?_
  refine j_iconst (v := (3 : Int32)) K dX7_asks_1 (by decide) ?_
  obtain ⟨v2, S2, e2, h⟩ := bd2 h
  refine j_cI (st := []) K (r_S (vs := [vI x1, vI (3 : Int32)]) (n := 2) K (c_X7_fits e2) dX7_asks_2 z444 z425 z1 z426 ⟨zd_X7_fits, rfl, rfl, rfl, ⟨Nat.le_of_ble_eq_true rfl, Nat.le_of_ble_eq_true rfl⟩, Nat.le_of_ble_eq_true rfl, Nat.le_of_ble_eq_true rfl, Nat.le_of_ble_eq_true rfl⟩) rfl ?_
  refine j_if_eq K dX7_asks_5 (fun c5 => ?_) (fun c5 => ?_)
  · replace h := it c5 h
    exact j_sub [] rfl (w_X7_asks_30 K X h)
  · replace h := ie c5 h
    refine j_aload_n K dX7_asks_8 rfl 0 rfl ?_
    obtain ⟨v9, e9, h⟩ := bd h
    refine fgX7_10 K dX7_asks_9 e9 ?_
    refine j_iload_n K dX7_asks_12 rfl 2 rfl ?_
    obtain ⟨o13, ew13, hz13⟩ := bd h
    obtain ⟨er13, ho13⟩ := ob_some ew13
    subst er13
    have h := hz13
    obtain ⟨v13, S13, e13, h⟩ := bd2 h
    refine j_cI (st := []) K (r_V (vs := [vI x2]) (n := 1) (o := o13) K (c_X0_hasPerson e13) ho13 (by decide) rfl dX7_asks_13 z461 z462 z463 z2 z464 ⟨zd_X0_hasPerson, rfl, rfl, rfl, ⟨Nat.le_of_ble_eq_true rfl, Nat.le_of_ble_eq_true rfl⟩, Nat.le_of_ble_eq_true rfl, Nat.le_of_ble_eq_true rfl, Nat.le_of_ble_eq_true rfl⟩) rfl ?_
    refine j_if_eq K dX7_asks_16 (fun c16 => ?_) (fun c16 => ?_)
    · replace h := it c16 h
      exact j_sub [] rfl (w_X7_asks_30 K X h)
    · replace h := ie c16 h
      refine j_aload_n K dX7_asks_19 rfl 0 rfl ?_
      obtain ⟨v20, e20, h⟩ := bd h
      refine fgX7_10 K dX7_asks_20 e20 ?_
      refine j_iload_n K dX7_asks_23 rfl 3 rfl ?_
      obtain ⟨o24, ew24, hz24⟩ := bd h
      obtain ⟨er24, ho24⟩ := ob_some ew24
      subst er24
      have h := hz24
      obtain ⟨v24, S24, e24, h⟩ := bd2 h
      refine j_cI (st := []) K (r_V (vs := [vI x3]) (n := 1) (o := o24) K (c_X0_hasWrong e24) ho24 (by decide) rfl dX7_asks_24 z420 z421 z422 z2 z423 ⟨zd_X0_hasWrong, rfl, rfl, rfl, ⟨Nat.le_of_ble_eq_true rfl, Nat.le_of_ble_eq_true rfl⟩, Nat.le_of_ble_eq_true rfl, Nat.le_of_ble_eq_true rfl, Nat.le_of_ble_eq_true rfl⟩) rfl ?_
      refine j_if_ne K dX7_asks_27 (fun c27 => ?_) (fun c27 => ?_)
      · replace h := ie c27 h
        refine j_aload_n K dX7_asks_33 rfl 0 rfl ?_
        obtain ⟨v34, e34, h⟩ := bd h
        refine fgX7_10 K dX7_asks_34 e34 ?_
        refine j_iload_n K dX7_asks_37 rfl 1 rfl ?_
        refine j_iload_n K dX7_asks_38 rfl 2 rfl ?_
        refine j_iload_n K dX7_asks_39 rfl 3 rfl ?_
        obtain ⟨o40, ew40, hz40⟩ := bd h
        obtain ⟨er40, ho40⟩ := ob_some ew40
        subst er40
        have h := hz40
        obtain ⟨v40, S40, e40, h⟩ := bd2 h
        refine j_cI (st := []) K (r_V (vs := [vI x1, vI x2, vI x3]) (n := 3) (o := o40) K (c_X0_says e40) ho40 (by decide) rfl dX7_asks_40 z465 z466 z467 z2 z468 ⟨zd_X0_says, rfl, rfl, rfl, ⟨Nat.le_of_ble_eq_true rfl, Nat.le_of_ble_eq_true rfl⟩, Nat.le_of_ble_eq_true rfl, Nat.le_of_ble_eq_true rfl, Nat.le_of_ble_eq_true rfl⟩) rfl ?_
        exact j_iret K X dX7_asks_43 h
      · replace h := it c27 h
        exact j_sub [] rfl (w_X7_asks_30 K X h)
theorem c_X7_asks {l : Launch} {fu : Nat} {S : Hp} {o : Nat} {x1 : Int32} {x2 : Int32} {x3 : Int32} {res : Int32 × Hp} (h : F_X7_asks fu S o x1 x2 x3 = some res) : Ct l yX7_asks cX7_asks 4 (some .int) (rmd 3 0 0) 0 0 [vR (some o), vI x1, vI x2, vI x3] S (QI res) :=
  z_entry (by decide +kernel) (Nat.le_of_ble_eq_true rfl) (fun E ad K X => w_X7_asks K X h)

theorem dX7_person_0 : decode cX7_person 0 = .ok (.iload_n 1, 1) ∧ 0 + 1 = 1 := ⟨by decide +kernel, rfl⟩
theorem dX7_person_1 : decode cX7_person 1 = .ok (.bipush 60, 2) ∧ 1 + 2 = 3 := ⟨by decide +kernel, rfl⟩
theorem dX7_person_3 : decode cX7_person 3 = .ok (.invokestatic 135, 3) := by decide +kernel
theorem dX7_person_6 : decode cX7_person 6 = .ok (.ifCond .eq 12, 3) ∧ 6 + 3 = 9 ∧ ((6 : Nat) : Int) + (12) = ((18 : Nat) : Int) := ⟨by decide +kernel, rfl, by decide⟩
theorem dX7_person_9 : decode cX7_person 9 = .ok (.iload_n 2, 1) ∧ 9 + 1 = 10 := ⟨by decide +kernel, rfl⟩
theorem dX7_person_10 : decode cX7_person 10 = .ok (.bipush 100, 2) ∧ 10 + 2 = 12 := ⟨by decide +kernel, rfl⟩
theorem dX7_person_12 : decode cX7_person 12 = .ok (.invokestatic 135, 3) := by decide +kernel
theorem dX7_person_15 : decode cX7_person 15 = .ok (.ifCond .ne 6, 3) ∧ 15 + 3 = 18 ∧ ((15 : Nat) : Int) + (6) = ((21 : Nat) : Int) := ⟨by decide +kernel, rfl, by decide⟩
theorem dX7_person_18 : decode cX7_person 18 = .ok (.bipush (-2), 2) ∧ 18 + 2 = 20 := ⟨by decide +kernel, rfl⟩
theorem dX7_person_20 : decode cX7_person 20 = .ok (.ireturn, 1) := by decide +kernel
theorem dX7_person_21 : decode cX7_person 21 = .ok (.aload_n 0, 1) ∧ 21 + 1 = 22 := ⟨by decide +kernel, rfl⟩
theorem dX7_person_22 : decode cX7_person 22 = .ok (.getfield 10, 3) ∧ 22 + 3 = 25 := ⟨by decide +kernel, rfl⟩
theorem dX7_person_25 : decode cX7_person 25 = .ok (.iload_n 1, 1) ∧ 25 + 1 = 26 := ⟨by decide +kernel, rfl⟩
theorem dX7_person_26 : decode cX7_person 26 = .ok (.bipush 10, 2) ∧ 26 + 2 = 28 := ⟨by decide +kernel, rfl⟩
theorem dX7_person_28 : decode cX7_person 28 = .ok (.idiv, 1) ∧ 28 + 1 = 29 := ⟨by decide +kernel, rfl⟩
theorem dX7_person_29 : decode cX7_person 29 = .ok (.iload_n 1, 1) ∧ 29 + 1 = 30 := ⟨by decide +kernel, rfl⟩
theorem dX7_person_30 : decode cX7_person 30 = .ok (.bipush 10, 2) ∧ 30 + 2 = 32 := ⟨by decide +kernel, rfl⟩
theorem dX7_person_32 : decode cX7_person 32 = .ok (.irem, 1) ∧ 32 + 1 = 33 := ⟨by decide +kernel, rfl⟩
theorem dX7_person_33 : decode cX7_person 33 = .ok (.iload_n 2, 1) ∧ 33 + 1 = 34 := ⟨by decide +kernel, rfl⟩
theorem dX7_person_34 : decode cX7_person 34 = .ok (.invokevirtual 152, 3) := by decide +kernel
theorem dX7_person_37 : decode cX7_person 37 = .ok (.ifCond .eq 15, 3) ∧ 37 + 3 = 40 ∧ ((37 : Nat) : Int) + (15) = ((52 : Nat) : Int) := ⟨by decide +kernel, rfl, by decide⟩
theorem dX7_person_40 : decode cX7_person 40 = .ok (.aload_n 0, 1) ∧ 40 + 1 = 41 := ⟨by decide +kernel, rfl⟩
theorem dX7_person_41 : decode cX7_person 41 = .ok (.getfield 10, 3) ∧ 41 + 3 = 44 := ⟨by decide +kernel, rfl⟩
theorem dX7_person_44 : decode cX7_person 44 = .ok (.getfield 90, 3) ∧ 44 + 3 = 47 := ⟨by decide +kernel, rfl⟩
theorem dX7_person_47 : decode cX7_person 47 = .ok (.iconst 1, 1) ∧ 47 + 1 = 48 := ⟨by decide +kernel, rfl⟩
theorem dX7_person_48 : decode cX7_person 48 = .ok (.isub, 1) ∧ 48 + 1 = 49 := ⟨by decide +kernel, rfl⟩
theorem dX7_person_49 : decode cX7_person 49 = .ok (.goto 5, 3) ∧ ((49 : Nat) : Int) + (5) = ((54 : Nat) : Int) := ⟨by decide +kernel, by decide⟩
theorem dX7_person_52 : decode cX7_person 52 = .ok (.bipush (-4), 2) ∧ 52 + 2 = 54 := ⟨by decide +kernel, rfl⟩
theorem dX7_person_54 : decode cX7_person 54 = .ok (.ireturn, 1) := by decide +kernel
def B_X7_person_18 (o : Nat) (S : Hp) : Option (Int32 × Hp) :=
  some ((-2 : Int32), S)
set_option maxRecDepth 100000 in
set_option maxHeartbeats 4000000 in
theorem w_X7_person_18 {E : Cx} {l : Launch} {res : Int32 × Hp} {ad : Nat → Nat} {o : Nat} {S : Hp} (K : Kx E cX7_person RX7 (rmd 2 0 0)) (X : Bx E l yX7_person 3 (some .int) 0 0 ad (QI res)) (h : B_X7_person_18 o S = some res) : J E 0 0 18 [] [] S ad := by
  refine j_bipush (v := (-2 : Int32)) K dX7_person_18 (by decide) ?_
  exact j_iret K X dX7_person_20 h
def B_X7_person_54 (o : Nat) (S : Hp) (s0 : Int32) : Option (Int32 × Hp) :=
  some (s0, S)
set_option maxRecDepth 100000 in
set_option maxHeartbeats 4000000 in
theorem w_X7_person_54 {E : Cx} {l : Launch} {res : Int32 × Hp} {ad : Nat → Nat} {o : Nat} {S : Hp} {s0 : Int32} (K : Kx E cX7_person RX7 (rmd 2 0 0)) (X : Bx E l yX7_person 3 (some .int) 0 0 ad (QI res)) (h : B_X7_person_54 o S s0 = some res) : J E 0 0 54 [] [vI s0] S ad := by
  exact j_iret K X dX7_person_54 h
def F_X7_person (S : Hp) (o : Nat) (x1 : Int32) (x2 : Int32) : Option (Int32 × Hp) :=
  b2 (F_X7_fits S x1 (60 : Int32)) fun v3 S3 =>
  if v3 = 0 then
    B_X7_person_18 o S3
  else
    b2 (F_X7_fits S3 x2 (100 : Int32)) fun v12 S12 =>
    if v12 = 0 then
      B_X7_person_18 o S12
    else
      (gR S12 (some o) 5 0).bind fun v22 =>
      (ob S12 0 v22).bind fun o34 =>
      b2 (F_X0_welcome S12 o34 (x1 / (10 : Int32)) (x1 - x1 / (10 : Int32) * (10 : Int32)) x2) fun v34 S34 =>
      if v34 = 0 then
        B_X7_person_54 o S34 (-4 : Int32)
      else
        (gR S34 (some o) 5 0).bind fun v41 =>
        (gI S34 v41 0 0).bind fun v44 =>
        B_X7_person_54 o S34 (v44 - (1 : Int32))
set_option maxRecDepth 100000 in
set_option maxHeartbeats 4000000 in
theorem w_X7_person {E : Cx} {l : Launch} {res : Int32 × Hp} {ad : Nat → Nat} {S : Hp} {o : Nat} {x1 : Int32} {x2 : Int32} (K : Kx E cX7_person RX7 (rmd 2 0 0)) (X : Bx E l yX7_person 3 (some .int) 0 0 ad (QI res)) (h : F_X7_person S o x1 x2 = some res) : J E 0 0 0 [(0, vR (some o)), (1, vI x1), (2, vI x2)] [] S ad := by
  refine j_iload_n K dX7_person_0 rfl 1 rfl ?_
  refine j_bipush (v := (60 : Int32)) K dX7_person_1 (by decide) ?_
  obtain ⟨v3, S3, e3, h⟩ := bd2 h
  refine j_cI (st := []) K (r_S (vs := [vI x1, vI (60 : Int32)]) (n := 2) K (c_X7_fits e3) dX7_person_3 z444 z425 z1 z426 ⟨zd_X7_fits, rfl, rfl, rfl, ⟨Nat.le_of_ble_eq_true rfl, Nat.le_of_ble_eq_true rfl⟩, Nat.le_of_ble_eq_true rfl, Nat.le_of_ble_eq_true rfl, Nat.le_of_ble_eq_true rfl⟩) rfl ?_
  refine j_if_eq K dX7_person_6 (fun c6 => ?_) (fun c6 => ?_)
  · replace h := it c6 h
    exact j_sub [] rfl (w_X7_person_18 K X h)
  · replace h := ie c6 h
    refine j_iload_n K dX7_person_9 rfl 2 rfl ?_
    refine j_bipush (v := (100 : Int32)) K dX7_person_10 (by decide) ?_
    obtain ⟨v12, S12, e12, h⟩ := bd2 h
    refine j_cI (st := []) K (r_S (vs := [vI x2, vI (100 : Int32)]) (n := 2) K (c_X7_fits e12) dX7_person_12 z444 z425 z1 z426 ⟨zd_X7_fits, rfl, rfl, rfl, ⟨Nat.le_of_ble_eq_true rfl, Nat.le_of_ble_eq_true rfl⟩, Nat.le_of_ble_eq_true rfl, Nat.le_of_ble_eq_true rfl, Nat.le_of_ble_eq_true rfl⟩) rfl ?_
    refine j_if_ne K dX7_person_15 (fun c15 => ?_) (fun c15 => ?_)
    · replace h := ie c15 h
      refine j_aload_n K dX7_person_21 rfl 0 rfl ?_
      obtain ⟨v22, e22, h⟩ := bd h
      refine fgX7_10 K dX7_person_22 e22 ?_
      refine j_iload_n K dX7_person_25 rfl 1 rfl ?_
      refine j_bipush (v := (10 : Int32)) K dX7_person_26 (by decide) ?_
      refine j_idiv K dX7_person_28 (by decide) ?_
      refine j_iload_n K dX7_person_29 rfl 1 rfl ?_
      refine j_bipush (v := (10 : Int32)) K dX7_person_30 (by decide) ?_
      refine j_irem K dX7_person_32 (by decide) ?_
      refine j_iload_n K dX7_person_33 rfl 2 rfl ?_
      obtain ⟨o34, ew34, hz34⟩ := bd h
      obtain ⟨er34, ho34⟩ := ob_some ew34
      subst er34
      have h := hz34
      obtain ⟨v34, S34, e34, h⟩ := bd2 h
      refine j_cI (st := []) K (r_V (vs := [vI (x1 / (10 : Int32)), vI (x1 - x1 / (10 : Int32) * (10 : Int32)), vI x2]) (n := 3) (o := o34) K (c_X0_welcome e34) ho34 (by decide) rfl dX7_person_34 z489 z490 z491 z2 z492 ⟨zd_X0_welcome, rfl, rfl, rfl, ⟨Nat.le_of_ble_eq_true rfl, Nat.le_of_ble_eq_true rfl⟩, Nat.le_of_ble_eq_true rfl, Nat.le_of_ble_eq_true rfl, Nat.le_of_ble_eq_true rfl⟩) rfl ?_
      refine j_if_eq K dX7_person_37 (fun c37 => ?_) (fun c37 => ?_)
      · replace h := it c37 h
        refine j_bipush (v := (-4 : Int32)) K dX7_person_52 (by decide) ?_
        exact j_sub [] rfl (w_X7_person_54 K X h)
      · replace h := ie c37 h
        refine j_aload_n K dX7_person_40 rfl 0 rfl ?_
        obtain ⟨v41, e41, h⟩ := bd h
        refine fgX7_10 K dX7_person_41 e41 ?_
        obtain ⟨v44, e44, h⟩ := bd h
        refine fgX7_90 K dX7_person_44 e44 ?_
        refine j_iconst (v := (1 : Int32)) K dX7_person_47 (by decide) ?_
        refine j_isub K dX7_person_48 ?_
        refine j_goto K dX7_person_49 ?_
        exact j_sub [] rfl (w_X7_person_54 K X h)
    · replace h := it c15 h
      exact j_sub [] rfl (w_X7_person_18 K X h)
theorem c_X7_person {l : Launch} {S : Hp} {o : Nat} {x1 : Int32} {x2 : Int32} {res : Int32 × Hp} (h : F_X7_person S o x1 x2 = some res) : Ct l yX7_person cX7_person 3 (some .int) (rmd 2 0 0) 0 0 [vR (some o), vI x1, vI x2] S (QI res) :=
  z_entry (by decide +kernel) (Nat.le_of_ble_eq_true rfl) (fun E ad K X => w_X7_person K X h)

theorem dX7_isZeroOrOne_0 : decode cX7_isZeroOrOne 0 = .ok (.iload_n 0, 1) ∧ 0 + 1 = 1 := ⟨by decide +kernel, rfl⟩
theorem dX7_isZeroOrOne_1 : decode cX7_isZeroOrOne 1 = .ok (.ifCond .eq 8, 3) ∧ 1 + 3 = 4 ∧ ((1 : Nat) : Int) + (8) = ((9 : Nat) : Int) := ⟨by decide +kernel, rfl, by decide⟩
theorem dX7_isZeroOrOne_4 : decode cX7_isZeroOrOne 4 = .ok (.iload_n 0, 1) ∧ 4 + 1 = 5 := ⟨by decide +kernel, rfl⟩
theorem dX7_isZeroOrOne_5 : decode cX7_isZeroOrOne 5 = .ok (.iconst 1, 1) ∧ 5 + 1 = 6 := ⟨by decide +kernel, rfl⟩
theorem dX7_isZeroOrOne_6 : decode cX7_isZeroOrOne 6 = .ok (.if_icmp .ne 7, 3) ∧ 6 + 3 = 9 ∧ ((6 : Nat) : Int) + (7) = ((13 : Nat) : Int) := ⟨by decide +kernel, rfl, by decide⟩
theorem dX7_isZeroOrOne_9 : decode cX7_isZeroOrOne 9 = .ok (.iconst 1, 1) ∧ 9 + 1 = 10 := ⟨by decide +kernel, rfl⟩
theorem dX7_isZeroOrOne_10 : decode cX7_isZeroOrOne 10 = .ok (.goto 4, 3) ∧ ((10 : Nat) : Int) + (4) = ((14 : Nat) : Int) := ⟨by decide +kernel, by decide⟩
theorem dX7_isZeroOrOne_13 : decode cX7_isZeroOrOne 13 = .ok (.iconst 0, 1) ∧ 13 + 1 = 14 := ⟨by decide +kernel, rfl⟩
theorem dX7_isZeroOrOne_14 : decode cX7_isZeroOrOne 14 = .ok (.ireturn, 1) := by decide +kernel
def B_X7_isZeroOrOne_14 (S : Hp) (s0 : Int32) : Option (Int32 × Hp) :=
  zb s0 S
set_option maxRecDepth 100000 in
set_option maxHeartbeats 4000000 in
theorem w_X7_isZeroOrOne_14 {E : Cx} {l : Launch} {res : Int32 × Hp} {ad : Nat → Nat} {S : Hp} {s0 : Int32} (K : Kx E cX7_isZeroOrOne RX7 (rmd 0 0 0)) (X : Bx E l yX7_isZeroOrOne 1 (some .boolean) 0 0 ad (QI res)) (h : B_X7_isZeroOrOne_14 S s0 = some res) : J E 0 0 14 [] [vI s0] S ad := by
  exact j_zret K X dX7_isZeroOrOne_14 h
def B_X7_isZeroOrOne_9 (S : Hp) : Option (Int32 × Hp) :=
  B_X7_isZeroOrOne_14 S (1 : Int32)
set_option maxRecDepth 100000 in
set_option maxHeartbeats 4000000 in
theorem w_X7_isZeroOrOne_9 {E : Cx} {l : Launch} {res : Int32 × Hp} {ad : Nat → Nat} {S : Hp} (K : Kx E cX7_isZeroOrOne RX7 (rmd 0 0 0)) (X : Bx E l yX7_isZeroOrOne 1 (some .boolean) 0 0 ad (QI res)) (h : B_X7_isZeroOrOne_9 S = some res) : J E 0 0 9 [] [] S ad := by
  refine j_iconst (v := (1 : Int32)) K dX7_isZeroOrOne_9 (by decide) ?_
  refine j_goto K dX7_isZeroOrOne_10 ?_
  exact w_X7_isZeroOrOne_14 K X h
def F_X7_isZeroOrOne (S : Hp) (x0 : Int32) : Option (Int32 × Hp) :=
  if x0 = 0 then
    B_X7_isZeroOrOne_9 S
  else
    if x0 = (1 : Int32) then
      B_X7_isZeroOrOne_9 S
    else
      B_X7_isZeroOrOne_14 S (0 : Int32)
set_option maxRecDepth 100000 in
set_option maxHeartbeats 4000000 in
theorem w_X7_isZeroOrOne {E : Cx} {l : Launch} {res : Int32 × Hp} {ad : Nat → Nat} {S : Hp} {x0 : Int32} (K : Kx E cX7_isZeroOrOne RX7 (rmd 0 0 0)) (X : Bx E l yX7_isZeroOrOne 1 (some .boolean) 0 0 ad (QI res)) (h : F_X7_isZeroOrOne S x0 = some res) : J E 0 0 0 [(0, vI x0)] [] S ad := by
  refine j_iload_n K dX7_isZeroOrOne_0 rfl 0 rfl ?_
  refine j_if_eq K dX7_isZeroOrOne_1 (fun c1 => ?_) (fun c1 => ?_)
  · replace h := it c1 h
    exact j_sub [] rfl (w_X7_isZeroOrOne_9 K X h)
  · replace h := ie c1 h
    refine j_iload_n K dX7_isZeroOrOne_4 rfl 0 rfl ?_
    refine j_iconst (v := (1 : Int32)) K dX7_isZeroOrOne_5 (by decide) ?_
    refine j_icmp_ne K dX7_isZeroOrOne_6 (fun c6 => ?_) (fun c6 => ?_)
    · replace h := ie c6 h
      refine j_iconst (v := (0 : Int32)) K dX7_isZeroOrOne_13 (by decide) ?_
      exact j_sub [] rfl (w_X7_isZeroOrOne_14 K X h)
    · replace h := it c6 h
      exact j_sub [] rfl (w_X7_isZeroOrOne_9 K X h)
theorem c_X7_isZeroOrOne {l : Launch} {S : Hp} {x0 : Int32} {res : Int32 × Hp} (h : F_X7_isZeroOrOne S x0 = some res) : Ct l yX7_isZeroOrOne cX7_isZeroOrOne 1 (some .boolean) (rmd 0 0 0) 0 0 [vI x0] S (QI res) :=
  z_entry (by decide +kernel) (Nat.le_of_ble_eq_true rfl) (fun E ad K X => w_X7_isZeroOrOne K X h)

theorem dX7_put_0 : decode cX7_put 0 = .ok (.aload_n 0, 1) ∧ 0 + 1 = 1 := ⟨by decide +kernel, rfl⟩
theorem dX7_put_1 : decode cX7_put 1 = .ok (.getfield 10, 3) ∧ 1 + 3 = 4 := ⟨by decide +kernel, rfl⟩
theorem dX7_put_4 : decode cX7_put 4 = .ok (.iload_n 1, 1) ∧ 4 + 1 = 5 := ⟨by decide +kernel, rfl⟩
theorem dX7_put_5 : decode cX7_put 5 = .ok (.invokevirtual 143, 3) := by decide +kernel
theorem dX7_put_8 : decode cX7_put 8 = .ok (.ifCond .ne 6, 3) ∧ 8 + 3 = 11 ∧ ((8 : Nat) : Int) + (6) = ((14 : Nat) : Int) := ⟨by decide +kernel, rfl, by decide⟩
theorem dX7_put_11 : decode cX7_put 11 = .ok (.bipush (-5), 2) ∧ 11 + 2 = 13 := ⟨by decide +kernel, rfl⟩
theorem dX7_put_13 : decode cX7_put 13 = .ok (.ireturn, 1) := by decide +kernel
theorem dX7_put_14 : decode cX7_put 14 = .ok (.iload_n 2, 1) ∧ 14 + 1 = 15 := ⟨by decide +kernel, rfl⟩
theorem dX7_put_15 : decode cX7_put 15 = .ok (.invokestatic 155, 3) := by decide +kernel
theorem dX7_put_18 : decode cX7_put 18 = .ok (.ifCond .eq 22, 3) ∧ 18 + 3 = 21 ∧ ((18 : Nat) : Int) + (22) = ((40 : Nat) : Int) := ⟨by decide +kernel, rfl, by decide⟩
theorem dX7_put_21 : decode cX7_put 21 = .ok (.iload_n 3, 1) ∧ 21 + 1 = 22 := ⟨by decide +kernel, rfl⟩
theorem dX7_put_22 : decode cX7_put 22 = .ok (.iload_n 2, 1) ∧ 22 + 1 = 23 := ⟨by decide +kernel, rfl⟩
theorem dX7_put_23 : decode cX7_put 23 = .ok (.ifCond .ne 8, 3) ∧ 23 + 3 = 26 ∧ ((23 : Nat) : Int) + (8) = ((31 : Nat) : Int) := ⟨by decide +kernel, rfl, by decide⟩
theorem dX7_put_26 : decode cX7_put 26 = .ok (.bipush 100, 2) ∧ 26 + 2 = 28 := ⟨by decide +kernel, rfl⟩
theorem dX7_put_28 : decode cX7_put 28 = .ok (.goto 6, 3) ∧ ((28 : Nat) : Int) + (6) = ((34 : Nat) : Int) := ⟨by decide +kernel, by decide⟩
theorem dX7_put_31 : decode cX7_put 31 = .ok (.sipush 1000, 3) ∧ 31 + 3 = 34 := ⟨by decide +kernel, rfl⟩
theorem dX7_put_34 : decode cX7_put 34 = .ok (.invokestatic 135, 3) := by decide +kernel
theorem dX7_put_37 : decode cX7_put 37 = .ok (.ifCond .ne 6, 3) ∧ 37 + 3 = 40 ∧ ((37 : Nat) : Int) + (6) = ((43 : Nat) : Int) := ⟨by decide +kernel, rfl, by decide⟩
theorem dX7_put_40 : decode cX7_put 40 = .ok (.bipush (-7), 2) ∧ 40 + 2 = 42 := ⟨by decide +kernel, rfl⟩
theorem dX7_put_42 : decode cX7_put 42 = .ok (.ireturn, 1) := by decide +kernel
theorem dX7_put_43 : decode cX7_put 43 = .ok (.iload_n 2, 1) ∧ 43 + 1 = 44 := ⟨by decide +kernel, rfl⟩
theorem dX7_put_44 : decode cX7_put 44 = .ok (.ifCond .ne 13, 3) ∧ 44 + 3 = 47 ∧ ((44 : Nat) : Int) + (13) = ((57 : Nat) : Int) := ⟨by decide +kernel, rfl, by decide⟩
theorem dX7_put_47 : decode cX7_put 47 = .ok (.aload_n 0, 1) ∧ 47 + 1 = 48 := ⟨by decide +kernel, rfl⟩
theorem dX7_put_48 : decode cX7_put 48 = .ok (.getfield 10, 3) ∧ 48 + 3 = 51 := ⟨by decide +kernel, rfl⟩
theorem dX7_put_51 : decode cX7_put 51 = .ok (.getfield 158, 3) ∧ 51 + 3 = 54 := ⟨by decide +kernel, rfl⟩
theorem dX7_put_54 : decode cX7_put 54 = .ok (.goto 10, 3) ∧ ((54 : Nat) : Int) + (10) = ((64 : Nat) : Int) := ⟨by decide +kernel, by decide⟩
theorem dX7_put_57 : decode cX7_put 57 = .ok (.aload_n 0, 1) ∧ 57 + 1 = 58 := ⟨by decide +kernel, rfl⟩
theorem dX7_put_58 : decode cX7_put 58 = .ok (.getfield 10, 3) ∧ 58 + 3 = 61 := ⟨by decide +kernel, rfl⟩
theorem dX7_put_61 : decode cX7_put 61 = .ok (.getfield 161, 3) ∧ 61 + 3 = 64 := ⟨by decide +kernel, rfl⟩
theorem dX7_put_64 : decode cX7_put 64 = .ok (.astore 4, 2) ∧ 64 + 2 = 66 := ⟨by decide +kernel, rfl⟩
theorem dX7_put_66 : decode cX7_put 66 = .ok (.aload 4, 2) ∧ 66 + 2 = 68 := ⟨by decide +kernel, rfl⟩
theorem dX7_put_68 : decode cX7_put 68 = .ok (.iload_n 1, 1) ∧ 68 + 1 = 69 := ⟨by decide +kernel, rfl⟩
theorem dX7_put_69 : decode cX7_put 69 = .ok (.invokestatic 116, 3) := by decide +kernel
theorem dX7_put_72 : decode cX7_put 72 = .ok (.istore 5, 2) ∧ 72 + 2 = 74 := ⟨by decide +kernel, rfl⟩
theorem dX7_put_74 : decode cX7_put 74 = .ok (.aload 4, 2) ∧ 74 + 2 = 76 := ⟨by decide +kernel, rfl⟩
theorem dX7_put_76 : decode cX7_put 76 = .ok (.iload_n 1, 1) ∧ 76 + 1 = 77 := ⟨by decide +kernel, rfl⟩
theorem dX7_put_77 : decode cX7_put 77 = .ok (.iload_n 3, 1) ∧ 77 + 1 = 78 := ⟨by decide +kernel, rfl⟩
theorem dX7_put_78 : decode cX7_put 78 = .ok (.invokestatic 164, 3) := by decide +kernel
theorem dX7_put_81 : decode cX7_put 81 = .ok (.iload 5, 2) ∧ 81 + 2 = 83 := ⟨by decide +kernel, rfl⟩
theorem dX7_put_83 : decode cX7_put 83 = .ok (.ireturn, 1) := by decide +kernel
def B_X7_put_40 (o : Nat) (S : Hp) : Option (Int32 × Hp) :=
  some ((-7 : Int32), S)
set_option maxRecDepth 100000 in
set_option maxHeartbeats 4000000 in
theorem w_X7_put_40 {E : Cx} {l : Launch} {res : Int32 × Hp} {ad : Nat → Nat} {o : Nat} {S : Hp} (K : Kx E cX7_put RX7 (rmd 2 0 0)) (X : Bx E l yX7_put 6 (some .int) 0 0 ad (QI res)) (h : B_X7_put_40 o S = some res) : J E 0 0 40 [] [] S ad := by
  refine j_bipush (v := (-7 : Int32)) K dX7_put_40 (by decide) ?_
  exact j_iret K X dX7_put_42 h
def B_X7_put_64 (o : Nat) (S : Hp) (x1 : Int32) (x3 : Int32) (s0 : Option Nat) : Option (Int32 × Hp) :=
  b2 (F_X7_at S s0 x1) fun v69 S69 =>
  (F_X7_store S69 s0 x1 x3).bind fun S78 =>
  some (v69, S78)
set_option maxRecDepth 100000 in
set_option maxHeartbeats 4000000 in
theorem w_X7_put_64 {E : Cx} {l : Launch} {res : Int32 × Hp} {ad : Nat → Nat} {o : Nat} {S : Hp} {x1 : Int32} {x3 : Int32} {s0 : Option Nat} (K : Kx E cX7_put RX7 (rmd 2 0 0)) (X : Bx E l yX7_put 6 (some .int) 0 0 ad (QI res)) (h : B_X7_put_64 o S x1 x3 s0 = some res) : J E 0 0 64 [(1, vI x1), (3, vI x3)] [vR s0] S ad := by
  refine j_astore (lv' := [(4, vR s0), (1, vI x1), (3, vI x3)]) K dX7_put_64 X.2.2.1 (by decide) rfl ?_
  refine j_aload K dX7_put_66 0 rfl ?_
  refine j_iload_n K dX7_put_68 rfl 1 rfl ?_
  obtain ⟨v69, S69, e69, h⟩ := bd2 h
  refine j_cI (st := []) K (r_S (vs := [vR s0, vI x1]) (n := 2) K (c_X7_at e69) dX7_put_69 z427 z227 z1 z228 ⟨zd_X7_at, rfl, rfl, rfl, ⟨Nat.le_of_ble_eq_true rfl, Nat.le_of_ble_eq_true rfl⟩, Nat.le_of_ble_eq_true rfl, Nat.le_of_ble_eq_true rfl, Nat.le_of_ble_eq_true rfl⟩) rfl ?_
  refine j_istore (lv' := [(5, vI v69), (4, vR s0), (1, vI x1), (3, vI x3)]) K dX7_put_72 X.2.2.1 (by decide) rfl ?_
  refine j_aload K dX7_put_74 1 rfl ?_
  refine j_iload_n K dX7_put_76 rfl 2 rfl ?_
  refine j_iload_n K dX7_put_77 rfl 3 rfl ?_
  obtain ⟨S78, e78, h⟩ := bd h
  refine j_cV (st := []) K (r_S (vs := [vR s0, vI x1, vI x3]) (n := 3) K (c_X7_store e78) dX7_put_78 z500 z216 z1 z217 ⟨zd_X7_store, rfl, rfl, rfl, ⟨Nat.le_of_ble_eq_true rfl, Nat.le_of_ble_eq_true rfl⟩, Nat.le_of_ble_eq_true rfl, Nat.le_of_ble_eq_true rfl, Nat.le_of_ble_eq_true rfl⟩) rfl ?_
  refine j_iload K dX7_put_81 0 rfl ?_
  exact j_iret K X dX7_put_83 h
def B_X7_put_34 (o : Nat) (S : Hp) (x1 : Int32) (x2 : Int32) (x3 : Int32) (s0 : Int32) (s1 : Int32) : Option (Int32 × Hp) :=
  b2 (F_X7_fits S s1 s0) fun v34 S34 =>
  if v34 = 0 then
    B_X7_put_40 o S34
  else
    if x2 = 0 then
      (gR S34 (some o) 5 0).bind fun v48 =>
      (gR S34 v48 0 3).bind fun v51 =>
      B_X7_put_64 o S34 x1 x3 v51
    else
      (gR S34 (some o) 5 0).bind fun v58 =>
      (gR S34 v58 0 4).bind fun v61 =>
      B_X7_put_64 o S34 x1 x3 v61
set_option maxRecDepth 100000 in
set_option maxHeartbeats 4000000 in
theorem w_X7_put_34 {E : Cx} {l : Launch} {res : Int32 × Hp} {ad : Nat → Nat} {o : Nat} {S : Hp} {x1 : Int32} {x2 : Int32} {x3 : Int32} {s0 : Int32} {s1 : Int32} (K : Kx E cX7_put RX7 (rmd 2 0 0)) (X : Bx E l yX7_put 6 (some .int) 0 0 ad (QI res)) (h : B_X7_put_34 o S x1 x2 x3 s0 s1 = some res) : J E 0 0 34 [(0, vR (some o)), (1, vI x1), (2, vI x2), (3, vI x3)] [vI s0, vI s1] S ad := by
  obtain ⟨v34, S34, e34, h⟩ := bd2 h
  refine j_cI (st := []) K (r_S (vs := [vI s1, vI s0]) (n := 2) K (c_X7_fits e34) dX7_put_34 z444 z425 z1 z426 ⟨zd_X7_fits, rfl, rfl, rfl, ⟨Nat.le_of_ble_eq_true rfl, Nat.le_of_ble_eq_true rfl⟩, Nat.le_of_ble_eq_true rfl, Nat.le_of_ble_eq_true rfl, Nat.le_of_ble_eq_true rfl⟩) rfl ?_
  refine j_if_ne K dX7_put_37 (fun c37 => ?_) (fun c37 => ?_)
  · replace h := ie c37 h
    refine j_iload_n K dX7_put_43 rfl 2 rfl ?_
    refine j_if_ne K dX7_put_44 (fun c44 => ?_) (fun c44 => ?_)
    · replace h := ie c44 h
      refine j_aload_n K dX7_put_57 rfl 0 rfl ?_
      obtain ⟨v58, e58, h⟩ := bd h
      refine fgX7_10 K dX7_put_58 e58 ?_
      obtain ⟨v61, e61, h⟩ := bd h
      refine fgX7_161 K dX7_put_61 e61 ?_
      exact j_sub [1, 3] rfl (w_X7_put_64 K X h)
    · replace h := it c44 h
      refine j_aload_n K dX7_put_47 rfl 0 rfl ?_
      obtain ⟨v48, e48, h⟩ := bd h
      refine fgX7_10 K dX7_put_48 e48 ?_
      obtain ⟨v51, e51, h⟩ := bd h
      refine fgX7_158 K dX7_put_51 e51 ?_
      refine j_goto K dX7_put_54 ?_
      exact j_sub [1, 3] rfl (w_X7_put_64 K X h)
  · replace h := it c37 h
    exact j_sub [] rfl (w_X7_put_40 K X h)
def F_X7_put (S : Hp) (o : Nat) (x1 : Int32) (x2 : Int32) (x3 : Int32) : Option (Int32 × Hp) :=
  (gR S (some o) 5 0).bind fun v1 =>
  (ob S 0 v1).bind fun o5 =>
  b2 (F_X0_hasPerson S o5 x1) fun v5 S5 =>
  if v5 = 0 then
    some ((-5 : Int32), S5)
  else
    b2 (F_X7_isZeroOrOne S5 x2) fun v15 S15 =>
    if v15 = 0 then
      B_X7_put_40 o S15
    else
      if x2 = 0 then
        B_X7_put_34 o S15 x1 x2 x3 (100 : Int32) x3
      else
        B_X7_put_34 o S15 x1 x2 x3 (1000 : Int32) x3
set_option maxRecDepth 100000 in
set_option maxHeartbeats 4000000 in
theorem w_X7_put {E : Cx} {l : Launch} {res : Int32 × Hp} {ad : Nat → Nat} {S : Hp} {o : Nat} {x1 : Int32} {x2 : Int32} {x3 : Int32} (K : Kx E cX7_put RX7 (rmd 2 0 0)) (X : Bx E l yX7_put 6 (some .int) 0 0 ad (QI res)) (h : F_X7_put S o x1 x2 x3 = some res) : J E 0 0 0 [(0, vR (some o)), (1, vI x1), (2, vI x2), (3, vI x3)] [] S ad := by
  refine j_aload_n K dX7_put_0 rfl 0 rfl ?_
  obtain ⟨v1, e1, h⟩ := bd h
  refine fgX7_10 K dX7_put_1 e1 ?_
  refine j_iload_n K dX7_put_4 rfl 1 rfl ?_
  obtain ⟨o5, ew5, hz5⟩ := bd h
  obtain ⟨er5, ho5⟩ := ob_some ew5
  subst er5
  have h := hz5
  obtain ⟨v5, S5, e5, h⟩ := bd2 h
  refine j_cI (st := []) K (r_V (vs := [vI x1]) (n := 1) (o := o5) K (c_X0_hasPerson e5) ho5 (by decide) rfl dX7_put_5 z461 z462 z463 z2 z464 ⟨zd_X0_hasPerson, rfl, rfl, rfl, ⟨Nat.le_of_ble_eq_true rfl, Nat.le_of_ble_eq_true rfl⟩, Nat.le_of_ble_eq_true rfl, Nat.le_of_ble_eq_true rfl, Nat.le_of_ble_eq_true rfl⟩) rfl ?_
  refine j_if_ne K dX7_put_8 (fun c8 => ?_) (fun c8 => ?_)
  · replace h := ie c8 h
    refine j_iload_n K dX7_put_14 rfl 2 rfl ?_
    obtain ⟨v15, S15, e15, h⟩ := bd2 h
    refine j_cI (st := []) K (r_S (vs := [vI x2]) (n := 1) K (c_X7_isZeroOrOne e15) dX7_put_15 z497 z498 z1 z499 ⟨zd_X7_isZeroOrOne, rfl, rfl, rfl, ⟨Nat.le_of_ble_eq_true rfl, Nat.le_of_ble_eq_true rfl⟩, Nat.le_of_ble_eq_true rfl, Nat.le_of_ble_eq_true rfl, Nat.le_of_ble_eq_true rfl⟩) rfl ?_
    refine j_if_eq K dX7_put_18 (fun c18 => ?_) (fun c18 => ?_)
    · replace h := it c18 h
      exact j_sub [] rfl (w_X7_put_40 K X h)
    · replace h := ie c18 h
      refine j_iload_n K dX7_put_21 rfl 3 rfl ?_
      refine j_iload_n K dX7_put_22 rfl 2 rfl ?_
      refine j_if_ne K dX7_put_23 (fun c23 => ?_) (fun c23 => ?_)
      · replace h := ie c23 h
        refine j_sipush (v := (1000 : Int32)) K dX7_put_31 (by decide) ?_
        exact w_X7_put_34 K X h
      · replace h := it c23 h
        refine j_bipush (v := (100 : Int32)) K dX7_put_26 (by decide) ?_
        refine j_goto K dX7_put_28 ?_
        exact w_X7_put_34 K X h
  · replace h := it c8 h
    refine j_bipush (v := (-5 : Int32)) K dX7_put_11 (by decide) ?_
    exact j_iret K X dX7_put_13 h
theorem c_X7_put {l : Launch} {S : Hp} {o : Nat} {x1 : Int32} {x2 : Int32} {x3 : Int32} {res : Int32 × Hp} (h : F_X7_put S o x1 x2 x3 = some res) : Ct l yX7_put cX7_put 6 (some .int) (rmd 2 0 0) 0 0 [vR (some o), vI x1, vI x2, vI x3] S (QI res) :=
  z_entry (by decide +kernel) (Nat.le_of_ble_eq_true rfl) (fun E ad K X => w_X7_put K X h)

theorem dX7_told_0 : decode cX7_told 0 = .ok (.aload_n 0, 1) ∧ 0 + 1 = 1 := ⟨by decide +kernel, rfl⟩
theorem dX7_told_1 : decode cX7_told 1 = .ok (.getfield 10, 3) ∧ 1 + 3 = 4 := ⟨by decide +kernel, rfl⟩
theorem dX7_told_4 : decode cX7_told 4 = .ok (.iload_n 1, 1) ∧ 4 + 1 = 5 := ⟨by decide +kernel, rfl⟩
theorem dX7_told_5 : decode cX7_told 5 = .ok (.invokevirtual 143, 3) := by decide +kernel
theorem dX7_told_8 : decode cX7_told 8 = .ok (.ifCond .ne 6, 3) ∧ 8 + 3 = 11 ∧ ((8 : Nat) : Int) + (6) = ((14 : Nat) : Int) := ⟨by decide +kernel, rfl, by decide⟩
theorem dX7_told_11 : decode cX7_told 11 = .ok (.bipush (-5), 2) ∧ 11 + 2 = 13 := ⟨by decide +kernel, rfl⟩
theorem dX7_told_13 : decode cX7_told 13 = .ok (.ireturn, 1) := by decide +kernel
theorem dX7_told_14 : decode cX7_told 14 = .ok (.iload_n 2, 1) ∧ 14 + 1 = 15 := ⟨by decide +kernel, rfl⟩
theorem dX7_told_15 : decode cX7_told 15 = .ok (.tableswitch 123 0 5 #[37, 49, 61, 73, 85, 104], 37) := by decide +kernel
theorem dX7_told_52 : decode cX7_told 52 = .ok (.aload_n 0, 1) ∧ 52 + 1 = 53 := ⟨by decide +kernel, rfl⟩
theorem dX7_told_53 : decode cX7_told 53 = .ok (.getfield 10, 3) ∧ 53 + 3 = 56 := ⟨by decide +kernel, rfl⟩
theorem dX7_told_56 : decode cX7_told 56 = .ok (.getfield 158, 3) ∧ 56 + 3 = 59 := ⟨by decide +kernel, rfl⟩
theorem dX7_told_59 : decode cX7_told 59 = .ok (.iload_n 1, 1) ∧ 59 + 1 = 60 := ⟨by decide +kernel, rfl⟩
theorem dX7_told_60 : decode cX7_told 60 = .ok (.invokestatic 116, 3) := by decide +kernel
theorem dX7_told_63 : decode cX7_told 63 = .ok (.ireturn, 1) := by decide +kernel
theorem dX7_told_64 : decode cX7_told 64 = .ok (.aload_n 0, 1) ∧ 64 + 1 = 65 := ⟨by decide +kernel, rfl⟩
theorem dX7_told_65 : decode cX7_told 65 = .ok (.getfield 10, 3) ∧ 65 + 3 = 68 := ⟨by decide +kernel, rfl⟩
theorem dX7_told_68 : decode cX7_told 68 = .ok (.getfield 161, 3) ∧ 68 + 3 = 71 := ⟨by decide +kernel, rfl⟩
theorem dX7_told_71 : decode cX7_told 71 = .ok (.iload_n 1, 1) ∧ 71 + 1 = 72 := ⟨by decide +kernel, rfl⟩
theorem dX7_told_72 : decode cX7_told 72 = .ok (.invokestatic 116, 3) := by decide +kernel
theorem dX7_told_75 : decode cX7_told 75 = .ok (.ireturn, 1) := by decide +kernel
theorem dX7_told_76 : decode cX7_told 76 = .ok (.aload_n 0, 1) ∧ 76 + 1 = 77 := ⟨by decide +kernel, rfl⟩
theorem dX7_told_77 : decode cX7_told 77 = .ok (.getfield 10, 3) ∧ 77 + 3 = 80 := ⟨by decide +kernel, rfl⟩
theorem dX7_told_80 : decode cX7_told 80 = .ok (.getfield 168, 3) ∧ 80 + 3 = 83 := ⟨by decide +kernel, rfl⟩
theorem dX7_told_83 : decode cX7_told 83 = .ok (.iload_n 1, 1) ∧ 83 + 1 = 84 := ⟨by decide +kernel, rfl⟩
theorem dX7_told_84 : decode cX7_told 84 = .ok (.invokestatic 116, 3) := by decide +kernel
theorem dX7_told_87 : decode cX7_told 87 = .ok (.ireturn, 1) := by decide +kernel
theorem dX7_told_88 : decode cX7_told 88 = .ok (.aload_n 0, 1) ∧ 88 + 1 = 89 := ⟨by decide +kernel, rfl⟩
theorem dX7_told_89 : decode cX7_told 89 = .ok (.getfield 10, 3) ∧ 89 + 3 = 92 := ⟨by decide +kernel, rfl⟩
theorem dX7_told_92 : decode cX7_told 92 = .ok (.getfield 171, 3) ∧ 92 + 3 = 95 := ⟨by decide +kernel, rfl⟩
theorem dX7_told_95 : decode cX7_told 95 = .ok (.iload_n 1, 1) ∧ 95 + 1 = 96 := ⟨by decide +kernel, rfl⟩
theorem dX7_told_96 : decode cX7_told 96 = .ok (.invokestatic 116, 3) := by decide +kernel
theorem dX7_told_99 : decode cX7_told 99 = .ok (.ireturn, 1) := by decide +kernel
theorem dX7_told_100 : decode cX7_told 100 = .ok (.aload_n 0, 1) ∧ 100 + 1 = 101 := ⟨by decide +kernel, rfl⟩
theorem dX7_told_101 : decode cX7_told 101 = .ok (.getfield 10, 3) ∧ 101 + 3 = 104 := ⟨by decide +kernel, rfl⟩
theorem dX7_told_104 : decode cX7_told 104 = .ok (.aload_n 0, 1) ∧ 104 + 1 = 105 := ⟨by decide +kernel, rfl⟩
theorem dX7_told_105 : decode cX7_told 105 = .ok (.getfield 10, 3) ∧ 105 + 3 = 108 := ⟨by decide +kernel, rfl⟩
theorem dX7_told_108 : decode cX7_told 108 = .ok (.getfield 113, 3) ∧ 108 + 3 = 111 := ⟨by decide +kernel, rfl⟩
theorem dX7_told_111 : decode cX7_told 111 = .ok (.iload_n 1, 1) ∧ 111 + 1 = 112 := ⟨by decide +kernel, rfl⟩
theorem dX7_told_112 : decode cX7_told 112 = .ok (.invokevirtual 174, 3) := by decide +kernel
theorem dX7_told_115 : decode cX7_told 115 = .ok (.invokestatic 177, 3) := by decide +kernel
theorem dX7_told_118 : decode cX7_told 118 = .ok (.ireturn, 1) := by decide +kernel
theorem dX7_told_119 : decode cX7_told 119 = .ok (.aload_n 0, 1) ∧ 119 + 1 = 120 := ⟨by decide +kernel, rfl⟩
theorem dX7_told_120 : decode cX7_told 120 = .ok (.getfield 10, 3) ∧ 120 + 3 = 123 := ⟨by decide +kernel, rfl⟩
theorem dX7_told_123 : decode cX7_told 123 = .ok (.aload_n 0, 1) ∧ 123 + 1 = 124 := ⟨by decide +kernel, rfl⟩
theorem dX7_told_124 : decode cX7_told 124 = .ok (.getfield 10, 3) ∧ 124 + 3 = 127 := ⟨by decide +kernel, rfl⟩
theorem dX7_told_127 : decode cX7_told 127 = .ok (.getfield 123, 3) ∧ 127 + 3 = 130 := ⟨by decide +kernel, rfl⟩
theorem dX7_told_130 : decode cX7_told 130 = .ok (.iload_n 1, 1) ∧ 130 + 1 = 131 := ⟨by decide +kernel, rfl⟩
theorem dX7_told_131 : decode cX7_told 131 = .ok (.invokevirtual 174, 3) := by decide +kernel
theorem dX7_told_134 : decode cX7_told 134 = .ok (.invokestatic 177, 3) := by decide +kernel
theorem dX7_told_137 : decode cX7_told 137 = .ok (.ireturn, 1) := by decide +kernel
theorem dX7_told_138 : decode cX7_told 138 = .ok (.bipush (-7), 2) ∧ 138 + 2 = 140 := ⟨by decide +kernel, rfl⟩
theorem dX7_told_140 : decode cX7_told 140 = .ok (.ireturn, 1) := by decide +kernel
def F_X7_told (fu : Nat) (S : Hp) (o : Nat) (x1 : Int32) (x2 : Int32) : Option (Int32 × Hp) :=
  (gR S (some o) 5 0).bind fun v1 =>
  (ob S 0 v1).bind fun o5 =>
  b2 (F_X0_hasPerson S o5 x1) fun v5 S5 =>
  if v5 = 0 then
    some ((-5 : Int32), S5)
  else
    if x2 = 0 then
      (gR S5 (some o) 5 0).bind fun v53 =>
      (gR S5 v53 0 3).bind fun v56 =>
      b2 (F_X7_at S5 v56 x1) fun v60 S60 =>
      some (v60, S60)
    else
    if x2 = 1 then
      (gR S5 (some o) 5 0).bind fun v65 =>
      (gR S5 v65 0 4).bind fun v68 =>
      b2 (F_X7_at S5 v68 x1) fun v72 S72 =>
      some (v72, S72)
    else
    if x2 = 2 then
      (gR S5 (some o) 5 0).bind fun v77 =>
      (gR S5 v77 0 1).bind fun v80 =>
      b2 (F_X7_at S5 v80 x1) fun v84 S84 =>
      some (v84, S84)
    else
    if x2 = 3 then
      (gR S5 (some o) 5 0).bind fun v89 =>
      (gR S5 v89 0 2).bind fun v92 =>
      b2 (F_X7_at S5 v92 x1) fun v96 S96 =>
      some (v96, S96)
    else
    if x2 = 4 then
      (gR S5 (some o) 5 0).bind fun v101 =>
      (gR S5 (some o) 5 0).bind fun v105 =>
      (gR S5 v105 0 6).bind fun v108 =>
      (ob S5 0 v101).bind fun o112 =>
      b2 (F_X0_wrongsWith fu S5 o112 v108 x1) fun v112 S112 =>
      b2 (F_J6_bitCount_0f7a4 S112 v112) fun v115 S115 =>
      some (v115, S115)
    else
    if x2 = 5 then
      (gR S5 (some o) 5 0).bind fun v120 =>
      (gR S5 (some o) 5 0).bind fun v124 =>
      (gR S5 v124 0 8).bind fun v127 =>
      (ob S5 0 v120).bind fun o131 =>
      b2 (F_X0_wrongsWith fu S5 o131 v127 x1) fun v131 S131 =>
      b2 (F_J6_bitCount_0f7a4 S131 v131) fun v134 S134 =>
      some (v134, S134)
    else
    some ((-7 : Int32), S5)
set_option maxRecDepth 100000 in
set_option maxHeartbeats 4000000 in
theorem w_X7_told {E : Cx} {l : Launch} {res : Int32 × Hp} {ad : Nat → Nat} {fu : Nat} {S : Hp} {o : Nat} {x1 : Int32} {x2 : Int32} (K : Kx E cX7_told RX7 (rmd 2 0 0)) (X : Bx E l yX7_told 3 (some .int) 0 0 ad (QI res)) (h : F_X7_told fu S o x1 x2 = some res) : J E 0 0 0 [(0, vR (some o)), (1, vI x1), (2, vI x2)] [] S ad := by
  refine j_aload_n K dX7_told_0 rfl 0 rfl ?_
  obtain ⟨v1, e1, h⟩ := bd h
  refine fgX7_10 K dX7_told_1 e1 ?_
  refine j_iload_n K dX7_told_4 rfl 1 rfl ?_
  obtain ⟨o5, ew5, hz5⟩ := bd h
  obtain ⟨er5, ho5⟩ := ob_some ew5
  subst er5
  have h := hz5
  obtain ⟨v5, S5, e5, h⟩ := bd2 h
  refine j_cI (st := []) K (r_V (vs := [vI x1]) (n := 1) (o := o5) K (c_X0_hasPerson e5) ho5 (by decide) rfl dX7_told_5 z461 z462 z463 z2 z464 ⟨zd_X0_hasPerson, rfl, rfl, rfl, ⟨Nat.le_of_ble_eq_true rfl, Nat.le_of_ble_eq_true rfl⟩, Nat.le_of_ble_eq_true rfl, Nat.le_of_ble_eq_true rfl, Nat.le_of_ble_eq_true rfl⟩) rfl ?_
  refine j_if_ne K dX7_told_8 (fun c8 => ?_) (fun c8 => ?_)
  · replace h := ie c8 h
    refine j_iload_n K dX7_told_14 rfl 2 rfl ?_
    by_cases c15_0 : x2 = 0
    · replace h := it c15_0 h
      have t15 : x2.toInt = 0 := by rw [c15_0]; rfl
      refine j_tin (tgt := 52) K dX7_told_15 (by rw [t15]; decide) (by rw [t15]; decide) (by rw [t15]; rfl) (by decide) ?_
      refine j_aload_n K dX7_told_52 rfl 0 rfl ?_
      obtain ⟨v53, e53, h⟩ := bd h
      refine fgX7_10 K dX7_told_53 e53 ?_
      obtain ⟨v56, e56, h⟩ := bd h
      refine fgX7_158 K dX7_told_56 e56 ?_
      refine j_iload_n K dX7_told_59 rfl 1 rfl ?_
      obtain ⟨v60, S60, e60, h⟩ := bd2 h
      refine j_cI (st := []) K (r_S (vs := [vR v56, vI x1]) (n := 2) K (c_X7_at e60) dX7_told_60 z427 z227 z1 z228 ⟨zd_X7_at, rfl, rfl, rfl, ⟨Nat.le_of_ble_eq_true rfl, Nat.le_of_ble_eq_true rfl⟩, Nat.le_of_ble_eq_true rfl, Nat.le_of_ble_eq_true rfl, Nat.le_of_ble_eq_true rfl⟩) rfl ?_
      exact j_iret K X dX7_told_63 h
    replace h := ie c15_0 h
    by_cases c15_1 : x2 = 1
    · replace h := it c15_1 h
      have t15 : x2.toInt = 1 := by rw [c15_1]; rfl
      refine j_tin (tgt := 64) K dX7_told_15 (by rw [t15]; decide) (by rw [t15]; decide) (by rw [t15]; rfl) (by decide) ?_
      refine j_aload_n K dX7_told_64 rfl 0 rfl ?_
      obtain ⟨v65, e65, h⟩ := bd h
      refine fgX7_10 K dX7_told_65 e65 ?_
      obtain ⟨v68, e68, h⟩ := bd h
      refine fgX7_161 K dX7_told_68 e68 ?_
      refine j_iload_n K dX7_told_71 rfl 1 rfl ?_
      obtain ⟨v72, S72, e72, h⟩ := bd2 h
      refine j_cI (st := []) K (r_S (vs := [vR v68, vI x1]) (n := 2) K (c_X7_at e72) dX7_told_72 z427 z227 z1 z228 ⟨zd_X7_at, rfl, rfl, rfl, ⟨Nat.le_of_ble_eq_true rfl, Nat.le_of_ble_eq_true rfl⟩, Nat.le_of_ble_eq_true rfl, Nat.le_of_ble_eq_true rfl, Nat.le_of_ble_eq_true rfl⟩) rfl ?_
      exact j_iret K X dX7_told_75 h
    replace h := ie c15_1 h
    by_cases c15_2 : x2 = 2
    · replace h := it c15_2 h
      have t15 : x2.toInt = 2 := by rw [c15_2]; rfl
      refine j_tin (tgt := 76) K dX7_told_15 (by rw [t15]; decide) (by rw [t15]; decide) (by rw [t15]; rfl) (by decide) ?_
      refine j_aload_n K dX7_told_76 rfl 0 rfl ?_
      obtain ⟨v77, e77, h⟩ := bd h
      refine fgX7_10 K dX7_told_77 e77 ?_
      obtain ⟨v80, e80, h⟩ := bd h
      refine fgX7_168 K dX7_told_80 e80 ?_
      refine j_iload_n K dX7_told_83 rfl 1 rfl ?_
      obtain ⟨v84, S84, e84, h⟩ := bd2 h
      refine j_cI (st := []) K (r_S (vs := [vR v80, vI x1]) (n := 2) K (c_X7_at e84) dX7_told_84 z427 z227 z1 z228 ⟨zd_X7_at, rfl, rfl, rfl, ⟨Nat.le_of_ble_eq_true rfl, Nat.le_of_ble_eq_true rfl⟩, Nat.le_of_ble_eq_true rfl, Nat.le_of_ble_eq_true rfl, Nat.le_of_ble_eq_true rfl⟩) rfl ?_
      exact j_iret K X dX7_told_87 h
    replace h := ie c15_2 h
    by_cases c15_3 : x2 = 3
    · replace h := it c15_3 h
      have t15 : x2.toInt = 3 := by rw [c15_3]; rfl
      refine j_tin (tgt := 88) K dX7_told_15 (by rw [t15]; decide) (by rw [t15]; decide) (by rw [t15]; rfl) (by decide) ?_
      refine j_aload_n K dX7_told_88 rfl 0 rfl ?_
      obtain ⟨v89, e89, h⟩ := bd h
      refine fgX7_10 K dX7_told_89 e89 ?_
      obtain ⟨v92, e92, h⟩ := bd h
      refine fgX7_171 K dX7_told_92 e92 ?_
      refine j_iload_n K dX7_told_95 rfl 1 rfl ?_
      obtain ⟨v96, S96, e96, h⟩ := bd2 h
      refine j_cI (st := []) K (r_S (vs := [vR v92, vI x1]) (n := 2) K (c_X7_at e96) dX7_told_96 z427 z227 z1 z228 ⟨zd_X7_at, rfl, rfl, rfl, ⟨Nat.le_of_ble_eq_true rfl, Nat.le_of_ble_eq_true rfl⟩, Nat.le_of_ble_eq_true rfl, Nat.le_of_ble_eq_true rfl, Nat.le_of_ble_eq_true rfl⟩) rfl ?_
      exact j_iret K X dX7_told_99 h
    replace h := ie c15_3 h
    by_cases c15_4 : x2 = 4
    · replace h := it c15_4 h
      have t15 : x2.toInt = 4 := by rw [c15_4]; rfl
      refine j_tin (tgt := 100) K dX7_told_15 (by rw [t15]; decide) (by rw [t15]; decide) (by rw [t15]; rfl) (by decide) ?_
      refine j_aload_n K dX7_told_100 rfl 0 rfl ?_
      obtain ⟨v101, e101, h⟩ := bd h
      refine fgX7_10 K dX7_told_101 e101 ?_
      refine j_aload_n K dX7_told_104 rfl 0 rfl ?_
      obtain ⟨v105, e105, h⟩ := bd h
      refine fgX7_10 K dX7_told_105 e105 ?_
      obtain ⟨v108, e108, h⟩ := bd h
      refine fgX7_113 K dX7_told_108 e108 ?_
      refine j_iload_n K dX7_told_111 rfl 1 rfl ?_
      obtain ⟨o112, ew112, hz112⟩ := bd h
      obtain ⟨er112, ho112⟩ := ob_some ew112
      subst er112
      have h := hz112
      obtain ⟨v112, S112, e112, h⟩ := bd2 h
      refine j_cI (st := []) K (r_V (vs := [vR v108, vI x1]) (n := 2) (o := o112) K (c_X0_wrongsWith e112) ho112 (by decide) rfl dX7_told_112 z505 z506 z507 z2 z508 ⟨zd_X0_wrongsWith, rfl, rfl, rfl, ⟨Nat.le_of_ble_eq_true rfl, Nat.le_of_ble_eq_true rfl⟩, Nat.le_of_ble_eq_true rfl, Nat.le_of_ble_eq_true rfl, Nat.le_of_ble_eq_true rfl⟩) rfl ?_
      obtain ⟨v115, S115, e115, h⟩ := bd2 h
      refine j_cI (st := []) K (r_S (vs := [vI v112]) (n := 1) K (c_J6_bitCount_0f7a4 e115) dX7_told_115 z512 z470 z14 z471 ⟨zd_J6_bitCount_0f7a4, rfl, rfl, rfl, ⟨Nat.le_of_ble_eq_true rfl, Nat.le_of_ble_eq_true rfl⟩, Nat.le_of_ble_eq_true rfl, Nat.le_of_ble_eq_true rfl, Nat.le_of_ble_eq_true rfl⟩) rfl ?_
      exact j_iret K X dX7_told_118 h
    replace h := ie c15_4 h
    by_cases c15_5 : x2 = 5
    · replace h := it c15_5 h
      have t15 : x2.toInt = 5 := by rw [c15_5]; rfl
      refine j_tin (tgt := 119) K dX7_told_15 (by rw [t15]; decide) (by rw [t15]; decide) (by rw [t15]; rfl) (by decide) ?_
      refine j_aload_n K dX7_told_119 rfl 0 rfl ?_
      obtain ⟨v120, e120, h⟩ := bd h
      refine fgX7_10 K dX7_told_120 e120 ?_
      refine j_aload_n K dX7_told_123 rfl 0 rfl ?_
      obtain ⟨v124, e124, h⟩ := bd h
      refine fgX7_10 K dX7_told_124 e124 ?_
      obtain ⟨v127, e127, h⟩ := bd h
      refine fgX7_123 K dX7_told_127 e127 ?_
      refine j_iload_n K dX7_told_130 rfl 1 rfl ?_
      obtain ⟨o131, ew131, hz131⟩ := bd h
      obtain ⟨er131, ho131⟩ := ob_some ew131
      subst er131
      have h := hz131
      obtain ⟨v131, S131, e131, h⟩ := bd2 h
      refine j_cI (st := []) K (r_V (vs := [vR v127, vI x1]) (n := 2) (o := o131) K (c_X0_wrongsWith e131) ho131 (by decide) rfl dX7_told_131 z505 z506 z507 z2 z508 ⟨zd_X0_wrongsWith, rfl, rfl, rfl, ⟨Nat.le_of_ble_eq_true rfl, Nat.le_of_ble_eq_true rfl⟩, Nat.le_of_ble_eq_true rfl, Nat.le_of_ble_eq_true rfl, Nat.le_of_ble_eq_true rfl⟩) rfl ?_
      obtain ⟨v134, S134, e134, h⟩ := bd2 h
      refine j_cI (st := []) K (r_S (vs := [vI v131]) (n := 1) K (c_J6_bitCount_0f7a4 e134) dX7_told_134 z512 z470 z14 z471 ⟨zd_J6_bitCount_0f7a4, rfl, rfl, rfl, ⟨Nat.le_of_ble_eq_true rfl, Nat.le_of_ble_eq_true rfl⟩, Nat.le_of_ble_eq_true rfl, Nat.le_of_ble_eq_true rfl, Nat.le_of_ble_eq_true rfl⟩) rfl ?_
      exact j_iret K X dX7_told_137 h
    replace h := ie c15_5 h
    have t15_0 : x2.toInt ≠ 0 := swn rfl c15_0
    have t15_1 : x2.toInt ≠ 1 := swn rfl c15_1
    have t15_2 : x2.toInt ≠ 2 := swn rfl c15_2
    have t15_3 : x2.toInt ≠ 3 := swn rfl c15_3
    have t15_4 : x2.toInt ≠ 4 := swn rfl c15_4
    have t15_5 : x2.toInt ≠ 5 := swn rfl c15_5
    refine j_tout (tgt := 138) K dX7_told_15 (by omega) (by decide) ?_
    refine j_bipush (v := (-7 : Int32)) K dX7_told_138 (by decide) ?_
    exact j_iret K X dX7_told_140 h
  · replace h := it c8 h
    refine j_bipush (v := (-5 : Int32)) K dX7_told_11 (by decide) ?_
    exact j_iret K X dX7_told_13 h
theorem c_X7_told {l : Launch} {fu : Nat} {S : Hp} {o : Nat} {x1 : Int32} {x2 : Int32} {res : Int32 × Hp} (h : F_X7_told fu S o x1 x2 = some res) : Ct l yX7_told cX7_told 3 (some .int) (rmd 2 0 0) 0 0 [vR (some o), vI x1, vI x2] S (QI res) :=
  z_entry (by decide +kernel) (Nat.le_of_ble_eq_true rfl) (fun E ad K X => w_X7_told K X h)
