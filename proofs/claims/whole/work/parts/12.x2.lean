theorem dX3_init_0 : decode cX3_init 0 = .ok (.aload_n 0, 1) ∧ 0 + 1 = 1 := ⟨by decide +kernel, rfl⟩
theorem dX3_init_1 : decode cX3_init 1 = .ok (.invokespecial 3, 3) ∧ 1 + 3 = 4 := ⟨by decide +kernel, rfl⟩
theorem dX3_init_4 : decode cX3_init 4 = .ok (.aload_n 0, 1) ∧ 4 + 1 = 5 := ⟨by decide +kernel, rfl⟩
theorem dX3_init_5 : decode cX3_init 5 = .ok (.iconst (-1), 1) ∧ 5 + 1 = 6 := ⟨by decide +kernel, rfl⟩
theorem dX3_init_6 : decode cX3_init 6 = .ok (.putfield 9, 3) ∧ 6 + 3 = 9 := ⟨by decide +kernel, rfl⟩
theorem dX3_init_9 : decode cX3_init 9 = .ok (.aload_n 0, 1) ∧ 9 + 1 = 10 := ⟨by decide +kernel, rfl⟩
theorem dX3_init_10 : decode cX3_init 10 = .ok (.iconst 0, 1) ∧ 10 + 1 = 11 := ⟨by decide +kernel, rfl⟩
theorem dX3_init_11 : decode cX3_init 11 = .ok (.putfield 15, 3) ∧ 11 + 3 = 14 := ⟨by decide +kernel, rfl⟩
theorem dX3_init_14 : decode cX3_init 14 = .ok (.aload_n 0, 1) ∧ 14 + 1 = 15 := ⟨by decide +kernel, rfl⟩
theorem dX3_init_15 : decode cX3_init 15 = .ok (.sipush 160, 3) ∧ 15 + 3 = 18 := ⟨by decide +kernel, rfl⟩
theorem dX3_init_18 : decode cX3_init 18 = .ok (.newarray .int, 2) ∧ 18 + 2 = 20 := ⟨by decide +kernel, rfl⟩
theorem dX3_init_20 : decode cX3_init 20 = .ok (.putfield 18, 3) ∧ 20 + 3 = 23 := ⟨by decide +kernel, rfl⟩
theorem dX3_init_23 : decode cX3_init 23 = .ok (.aload_n 0, 1) ∧ 23 + 1 = 24 := ⟨by decide +kernel, rfl⟩
theorem dX3_init_24 : decode cX3_init 24 = .ok (.iconst 0, 1) ∧ 24 + 1 = 25 := ⟨by decide +kernel, rfl⟩
theorem dX3_init_25 : decode cX3_init 25 = .ok (.putfield 22, 3) ∧ 25 + 3 = 28 := ⟨by decide +kernel, rfl⟩
theorem dX3_init_28 : decode cX3_init 28 = .ok (.aload_n 0, 1) ∧ 28 + 1 = 29 := ⟨by decide +kernel, rfl⟩
theorem dX3_init_29 : decode cX3_init 29 = .ok (.iconst 3, 1) ∧ 29 + 1 = 30 := ⟨by decide +kernel, rfl⟩
theorem dX3_init_30 : decode cX3_init 30 = .ok (.newarray .int, 2) ∧ 30 + 2 = 32 := ⟨by decide +kernel, rfl⟩
theorem dX3_init_32 : decode cX3_init 32 = .ok (.putfield 25, 3) ∧ 32 + 3 = 35 := ⟨by decide +kernel, rfl⟩
theorem dX3_init_35 : decode cX3_init 35 = .ok (.aload_n 0, 1) ∧ 35 + 1 = 36 := ⟨by decide +kernel, rfl⟩
theorem dX3_init_36 : decode cX3_init 36 = .ok (.aload_n 1, 1) ∧ 36 + 1 = 37 := ⟨by decide +kernel, rfl⟩
theorem dX3_init_37 : decode cX3_init 37 = .ok (.putfield 28, 3) ∧ 37 + 3 = 40 := ⟨by decide +kernel, rfl⟩
theorem dX3_init_40 : decode cX3_init 40 = .ok (.return_, 1) := by decide +kernel
def F_X3_init (S : Hp) (o : Nat) (x1 : Option Nat) : Option (Hp) :=
  (pI S (some o) 2 1 (-1 : Int32)).bind fun S6 =>
  (pI S6 (some o) 2 2 (0 : Int32)).bind fun S11 =>
  (chn S.1 S11 [(some o), x1, (some o)]).bind fun _ =>
  (nA S11 160 (160 : Int32)).bind fun S18 =>
  (pR S18 (some o) 2 3 (some S11.1)).bind fun S20 =>
  (pI S20 (some o) 2 4 (0 : Int32)).bind fun S25 =>
  (chn S.1 S25 [(some o), x1, (some o)]).bind fun _ =>
  (nA S25 3 (3 : Int32)).bind fun S30 =>
  (pR S30 (some o) 2 5 (some S25.1)).bind fun S32 =>
  (pR S32 (some o) 2 0 x1).bind fun S37 =>
  some S37
set_option maxRecDepth 100000 in
set_option maxHeartbeats 4000000 in
theorem w_X3_init {E : Cx} {l : Launch} {res : Hp} {ad : Nat → Nat} {S : Hp} {o : Nat} {x1 : Option Nat} (K : Kx E cX3_init RX3 (rmd 1 2 163)) (X : Bx E l yX3_init 2 none 2 163 ad (QVa S.1 res)) (h : F_X3_init S o x1 = some res) : J E 0 0 0 [(0, vR (some o)), (1, vR x1)] [] S ad := by
  have he : ∀ k, k < S.1 → ad k = ad k := fun _ _ => rfl
  refine j_aload_n K dX3_init_0 rfl 0 rfl ?_
  refine j_oinit K dX3_init_1 z119 z23 z24 (Nat.le_of_ble_eq_true rfl) (Nat.le_of_ble_eq_true rfl) ?_
  refine j_aload_n K dX3_init_4 rfl 0 rfl ?_
  refine j_iconst (v := (-1 : Int32)) K dX3_init_5 (by decide) ?_
  obtain ⟨S6, e6, h⟩ := bd h
  refine fpX3_9 K dX3_init_6 e6 ?_
  refine j_aload_n K dX3_init_9 rfl 0 rfl ?_
  refine j_iconst (v := (0 : Int32)) K dX3_init_10 (by decide) ?_
  obtain ⟨S11, e11, h⟩ := bd h
  refine fpX3_15 K dX3_init_11 e11 ?_
  refine j_aload_n K dX3_init_14 rfl 0 rfl ?_
  refine j_sipush (v := (160 : Int32)) K dX3_init_15 (by decide) ?_
  obtain ⟨u18, e18, h⟩ := bd h
  obtain ⟨S18, g18, h⟩ := bd h
  refine j_nA (M := 160) K dX3_init_18 z88 (by decide) ⟨Nat.le_of_ble_eq_true rfl, Nat.le_of_ble_eq_true rfl⟩ rfl e18 g18 (fun ad18 a18 => ?_)
  have he18 := heX e18 a18 he
  obtain ⟨S20, e20, h⟩ := bd h
  refine fpX3_18 X.2.2.2.1 K dX3_init_20 e20 ?_
  refine j_aload_n K dX3_init_23 rfl 0 rfl ?_
  refine j_iconst (v := (0 : Int32)) K dX3_init_24 (by decide) ?_
  obtain ⟨S25, e25, h⟩ := bd h
  refine fpX3_22 K dX3_init_25 e25 ?_
  refine j_aload_n K dX3_init_28 rfl 0 rfl ?_
  refine j_iconst (v := (3 : Int32)) K dX3_init_29 (by decide) ?_
  obtain ⟨u30, e30, h⟩ := bd h
  obtain ⟨S30, g30, h⟩ := bd h
  refine j_nA (M := 3) K dX3_init_30 z88 (by decide) ⟨Nat.le_of_ble_eq_true rfl, Nat.le_of_ble_eq_true rfl⟩ rfl e30 g30 (fun ad30 a30 => ?_)
  have he30 := heX e30 a30 he18
  obtain ⟨S32, e32, h⟩ := bd h
  refine fpX3_25 X.2.2.2.1 K dX3_init_32 e32 ?_
  refine j_aload_n K dX3_init_35 rfl 0 rfl ?_
  refine j_aload_n K dX3_init_36 rfl 1 rfl ?_
  obtain ⟨S37, e37, h⟩ := bd h
  refine fpX3_28 X.2.2.2.1 K dX3_init_37 e37 ?_
  exact j_vretA K X he30 dX3_init_40 (Nat.le_of_ble_eq_true rfl) (Nat.le_of_ble_eq_true rfl) h
theorem c_X3_init {l : Launch} {S : Hp} {o : Nat} {x1 : Option Nat} {res : Hp} (h : F_X3_init S o x1 = some res) : Ct l yX3_init cX3_init 2 none (rmd 1 2 163) 2 163 [vR (some o), vR x1] S (QVa S.1 res) :=
  z_entry (by decide +kernel) (Nat.le_of_ble_eq_true rfl) (fun E ad K X => w_X3_init K X h)

theorem dX6_isBlank_0 : decode cX6_isBlank 0 = .ok (.iload_n 0, 1) ∧ 0 + 1 = 1 := ⟨by decide +kernel, rfl⟩
theorem dX6_isBlank_1 : decode cX6_isBlank 1 = .ok (.bipush 32, 2) ∧ 1 + 2 = 3 := ⟨by decide +kernel, rfl⟩
theorem dX6_isBlank_3 : decode cX6_isBlank 3 = .ok (.if_icmp .eq 9, 3) ∧ 3 + 3 = 6 ∧ ((3 : Nat) : Int) + (9) = ((12 : Nat) : Int) := ⟨by decide +kernel, rfl, by decide⟩
theorem dX6_isBlank_6 : decode cX6_isBlank 6 = .ok (.iload_n 0, 1) ∧ 6 + 1 = 7 := ⟨by decide +kernel, rfl⟩
theorem dX6_isBlank_7 : decode cX6_isBlank 7 = .ok (.bipush 10, 2) ∧ 7 + 2 = 9 := ⟨by decide +kernel, rfl⟩
theorem dX6_isBlank_9 : decode cX6_isBlank 9 = .ok (.if_icmp .ne 7, 3) ∧ 9 + 3 = 12 ∧ ((9 : Nat) : Int) + (7) = ((16 : Nat) : Int) := ⟨by decide +kernel, rfl, by decide⟩
theorem dX6_isBlank_12 : decode cX6_isBlank 12 = .ok (.iconst 1, 1) ∧ 12 + 1 = 13 := ⟨by decide +kernel, rfl⟩
theorem dX6_isBlank_13 : decode cX6_isBlank 13 = .ok (.goto 4, 3) ∧ ((13 : Nat) : Int) + (4) = ((17 : Nat) : Int) := ⟨by decide +kernel, by decide⟩
theorem dX6_isBlank_16 : decode cX6_isBlank 16 = .ok (.iconst 0, 1) ∧ 16 + 1 = 17 := ⟨by decide +kernel, rfl⟩
theorem dX6_isBlank_17 : decode cX6_isBlank 17 = .ok (.ireturn, 1) := by decide +kernel
def B_X6_isBlank_17 (S : Hp) (s0 : Int32) : Option (Int32 × Hp) :=
  zb s0 S
set_option maxRecDepth 100000 in
set_option maxHeartbeats 4000000 in
theorem w_X6_isBlank_17 {E : Cx} {l : Launch} {res : Int32 × Hp} {ad : Nat → Nat} {S : Hp} {s0 : Int32} (K : Kx E cX6_isBlank RX6 (rmd 0 0 0)) (X : Bx E l yX6_isBlank 1 (some .boolean) 0 0 ad (QI res)) (h : B_X6_isBlank_17 S s0 = some res) : J E 0 0 17 [] [vI s0] S ad := by
  exact j_zret K X dX6_isBlank_17 h
def B_X6_isBlank_12 (S : Hp) : Option (Int32 × Hp) :=
  B_X6_isBlank_17 S (1 : Int32)
set_option maxRecDepth 100000 in
set_option maxHeartbeats 4000000 in
theorem w_X6_isBlank_12 {E : Cx} {l : Launch} {res : Int32 × Hp} {ad : Nat → Nat} {S : Hp} (K : Kx E cX6_isBlank RX6 (rmd 0 0 0)) (X : Bx E l yX6_isBlank 1 (some .boolean) 0 0 ad (QI res)) (h : B_X6_isBlank_12 S = some res) : J E 0 0 12 [] [] S ad := by
  refine j_iconst (v := (1 : Int32)) K dX6_isBlank_12 (by decide) ?_
  refine j_goto K dX6_isBlank_13 ?_
  exact w_X6_isBlank_17 K X h
def F_X6_isBlank (S : Hp) (x0 : Int32) : Option (Int32 × Hp) :=
  if x0 = (32 : Int32) then
    B_X6_isBlank_12 S
  else
    if x0 = (10 : Int32) then
      B_X6_isBlank_12 S
    else
      B_X6_isBlank_17 S (0 : Int32)
set_option maxRecDepth 100000 in
set_option maxHeartbeats 4000000 in
theorem w_X6_isBlank {E : Cx} {l : Launch} {res : Int32 × Hp} {ad : Nat → Nat} {S : Hp} {x0 : Int32} (K : Kx E cX6_isBlank RX6 (rmd 0 0 0)) (X : Bx E l yX6_isBlank 1 (some .boolean) 0 0 ad (QI res)) (h : F_X6_isBlank S x0 = some res) : J E 0 0 0 [(0, vI x0)] [] S ad := by
  refine j_iload_n K dX6_isBlank_0 rfl 0 rfl ?_
  refine j_bipush (v := (32 : Int32)) K dX6_isBlank_1 (by decide) ?_
  refine j_icmp_eq K dX6_isBlank_3 (fun c3 => ?_) (fun c3 => ?_)
  · replace h := it c3 h
    exact j_sub [] rfl (w_X6_isBlank_12 K X h)
  · replace h := ie c3 h
    refine j_iload_n K dX6_isBlank_6 rfl 0 rfl ?_
    refine j_bipush (v := (10 : Int32)) K dX6_isBlank_7 (by decide) ?_
    refine j_icmp_ne K dX6_isBlank_9 (fun c9 => ?_) (fun c9 => ?_)
    · replace h := ie c9 h
      refine j_iconst (v := (0 : Int32)) K dX6_isBlank_16 (by decide) ?_
      exact j_sub [] rfl (w_X6_isBlank_17 K X h)
    · replace h := it c9 h
      exact j_sub [] rfl (w_X6_isBlank_12 K X h)
theorem c_X6_isBlank {l : Launch} {S : Hp} {x0 : Int32} {res : Int32 × Hp} (h : F_X6_isBlank S x0 = some res) : Ct l yX6_isBlank cX6_isBlank 1 (some .boolean) (rmd 0 0 0) 0 0 [vI x0] S (QI res) :=
  z_entry (by decide +kernel) (Nat.le_of_ble_eq_true rfl) (fun E ad K X => w_X6_isBlank K X h)

theorem dX6_isLetter_0 : decode cX6_isLetter 0 = .ok (.iload_n 0, 1) ∧ 0 + 1 = 1 := ⟨by decide +kernel, rfl⟩
theorem dX6_isLetter_1 : decode cX6_isLetter 1 = .ok (.bipush 97, 2) ∧ 1 + 2 = 3 := ⟨by decide +kernel, rfl⟩
theorem dX6_isLetter_3 : decode cX6_isLetter 3 = .ok (.if_icmp .lt 13, 3) ∧ 3 + 3 = 6 ∧ ((3 : Nat) : Int) + (13) = ((16 : Nat) : Int) := ⟨by decide +kernel, rfl, by decide⟩
theorem dX6_isLetter_6 : decode cX6_isLetter 6 = .ok (.iload_n 0, 1) ∧ 6 + 1 = 7 := ⟨by decide +kernel, rfl⟩
theorem dX6_isLetter_7 : decode cX6_isLetter 7 = .ok (.bipush 122, 2) ∧ 7 + 2 = 9 := ⟨by decide +kernel, rfl⟩
theorem dX6_isLetter_9 : decode cX6_isLetter 9 = .ok (.if_icmp .gt 7, 3) ∧ 9 + 3 = 12 ∧ ((9 : Nat) : Int) + (7) = ((16 : Nat) : Int) := ⟨by decide +kernel, rfl, by decide⟩
theorem dX6_isLetter_12 : decode cX6_isLetter 12 = .ok (.iconst 1, 1) ∧ 12 + 1 = 13 := ⟨by decide +kernel, rfl⟩
theorem dX6_isLetter_13 : decode cX6_isLetter 13 = .ok (.goto 4, 3) ∧ ((13 : Nat) : Int) + (4) = ((17 : Nat) : Int) := ⟨by decide +kernel, by decide⟩
theorem dX6_isLetter_16 : decode cX6_isLetter 16 = .ok (.iconst 0, 1) ∧ 16 + 1 = 17 := ⟨by decide +kernel, rfl⟩
theorem dX6_isLetter_17 : decode cX6_isLetter 17 = .ok (.ireturn, 1) := by decide +kernel
def B_X6_isLetter_17 (S : Hp) (s0 : Int32) : Option (Int32 × Hp) :=
  zb s0 S
set_option maxRecDepth 100000 in
set_option maxHeartbeats 4000000 in
theorem w_X6_isLetter_17 {E : Cx} {l : Launch} {res : Int32 × Hp} {ad : Nat → Nat} {S : Hp} {s0 : Int32} (K : Kx E cX6_isLetter RX6 (rmd 0 0 0)) (X : Bx E l yX6_isLetter 1 (some .boolean) 0 0 ad (QI res)) (h : B_X6_isLetter_17 S s0 = some res) : J E 0 0 17 [] [vI s0] S ad := by
  exact j_zret K X dX6_isLetter_17 h
def B_X6_isLetter_16 (S : Hp) : Option (Int32 × Hp) :=
  B_X6_isLetter_17 S (0 : Int32)
set_option maxRecDepth 100000 in
set_option maxHeartbeats 4000000 in
theorem w_X6_isLetter_16 {E : Cx} {l : Launch} {res : Int32 × Hp} {ad : Nat → Nat} {S : Hp} (K : Kx E cX6_isLetter RX6 (rmd 0 0 0)) (X : Bx E l yX6_isLetter 1 (some .boolean) 0 0 ad (QI res)) (h : B_X6_isLetter_16 S = some res) : J E 0 0 16 [] [] S ad := by
  refine j_iconst (v := (0 : Int32)) K dX6_isLetter_16 (by decide) ?_
  exact w_X6_isLetter_17 K X h
def F_X6_isLetter (S : Hp) (x0 : Int32) : Option (Int32 × Hp) :=
  if x0 < (97 : Int32) then
    B_X6_isLetter_16 S
  else
    if (122 : Int32) < x0 then
      B_X6_isLetter_16 S
    else
      B_X6_isLetter_17 S (1 : Int32)
set_option maxRecDepth 100000 in
set_option maxHeartbeats 4000000 in
theorem w_X6_isLetter {E : Cx} {l : Launch} {res : Int32 × Hp} {ad : Nat → Nat} {S : Hp} {x0 : Int32} (K : Kx E cX6_isLetter RX6 (rmd 0 0 0)) (X : Bx E l yX6_isLetter 1 (some .boolean) 0 0 ad (QI res)) (h : F_X6_isLetter S x0 = some res) : J E 0 0 0 [(0, vI x0)] [] S ad := by
  refine j_iload_n K dX6_isLetter_0 rfl 0 rfl ?_
  refine j_bipush (v := (97 : Int32)) K dX6_isLetter_1 (by decide) ?_
  refine j_icmp_lt K dX6_isLetter_3 (fun c3 => ?_) (fun c3 => ?_)
  · replace h := it c3 h
    exact j_sub [] rfl (w_X6_isLetter_16 K X h)
  · replace h := ie c3 h
    refine j_iload_n K dX6_isLetter_6 rfl 0 rfl ?_
    refine j_bipush (v := (122 : Int32)) K dX6_isLetter_7 (by decide) ?_
    refine j_icmp_gt K dX6_isLetter_9 (fun c9 => ?_) (fun c9 => ?_)
    · replace h := it c9 h
      exact j_sub [] rfl (w_X6_isLetter_16 K X h)
    · replace h := ie c9 h
      refine j_iconst (v := (1 : Int32)) K dX6_isLetter_12 (by decide) ?_
      refine j_goto K dX6_isLetter_13 ?_
      exact j_sub [] rfl (w_X6_isLetter_17 K X h)
theorem c_X6_isLetter {l : Launch} {S : Hp} {x0 : Int32} {res : Int32 × Hp} (h : F_X6_isLetter S x0 = some res) : Ct l yX6_isLetter cX6_isLetter 1 (some .boolean) (rmd 0 0 0) 0 0 [vI x0] S (QI res) :=
  z_entry (by decide +kernel) (Nat.le_of_ble_eq_true rfl) (fun E ad K X => w_X6_isLetter K X h)

theorem dX6_isDigit_0 : decode cX6_isDigit 0 = .ok (.iload_n 0, 1) ∧ 0 + 1 = 1 := ⟨by decide +kernel, rfl⟩
theorem dX6_isDigit_1 : decode cX6_isDigit 1 = .ok (.bipush 48, 2) ∧ 1 + 2 = 3 := ⟨by decide +kernel, rfl⟩
theorem dX6_isDigit_3 : decode cX6_isDigit 3 = .ok (.if_icmp .lt 13, 3) ∧ 3 + 3 = 6 ∧ ((3 : Nat) : Int) + (13) = ((16 : Nat) : Int) := ⟨by decide +kernel, rfl, by decide⟩
theorem dX6_isDigit_6 : decode cX6_isDigit 6 = .ok (.iload_n 0, 1) ∧ 6 + 1 = 7 := ⟨by decide +kernel, rfl⟩
theorem dX6_isDigit_7 : decode cX6_isDigit 7 = .ok (.bipush 57, 2) ∧ 7 + 2 = 9 := ⟨by decide +kernel, rfl⟩
theorem dX6_isDigit_9 : decode cX6_isDigit 9 = .ok (.if_icmp .gt 7, 3) ∧ 9 + 3 = 12 ∧ ((9 : Nat) : Int) + (7) = ((16 : Nat) : Int) := ⟨by decide +kernel, rfl, by decide⟩
theorem dX6_isDigit_12 : decode cX6_isDigit 12 = .ok (.iconst 1, 1) ∧ 12 + 1 = 13 := ⟨by decide +kernel, rfl⟩
theorem dX6_isDigit_13 : decode cX6_isDigit 13 = .ok (.goto 4, 3) ∧ ((13 : Nat) : Int) + (4) = ((17 : Nat) : Int) := ⟨by decide +kernel, by decide⟩
theorem dX6_isDigit_16 : decode cX6_isDigit 16 = .ok (.iconst 0, 1) ∧ 16 + 1 = 17 := ⟨by decide +kernel, rfl⟩
theorem dX6_isDigit_17 : decode cX6_isDigit 17 = .ok (.ireturn, 1) := by decide +kernel
def B_X6_isDigit_17 (S : Hp) (s0 : Int32) : Option (Int32 × Hp) :=
  zb s0 S
set_option maxRecDepth 100000 in
set_option maxHeartbeats 4000000 in
theorem w_X6_isDigit_17 {E : Cx} {l : Launch} {res : Int32 × Hp} {ad : Nat → Nat} {S : Hp} {s0 : Int32} (K : Kx E cX6_isDigit RX6 (rmd 0 0 0)) (X : Bx E l yX6_isDigit 1 (some .boolean) 0 0 ad (QI res)) (h : B_X6_isDigit_17 S s0 = some res) : J E 0 0 17 [] [vI s0] S ad := by
  exact j_zret K X dX6_isDigit_17 h
def B_X6_isDigit_16 (S : Hp) : Option (Int32 × Hp) :=
  B_X6_isDigit_17 S (0 : Int32)
set_option maxRecDepth 100000 in
set_option maxHeartbeats 4000000 in
theorem w_X6_isDigit_16 {E : Cx} {l : Launch} {res : Int32 × Hp} {ad : Nat → Nat} {S : Hp} (K : Kx E cX6_isDigit RX6 (rmd 0 0 0)) (X : Bx E l yX6_isDigit 1 (some .boolean) 0 0 ad (QI res)) (h : B_X6_isDigit_16 S = some res) : J E 0 0 16 [] [] S ad := by
  refine j_iconst (v := (0 : Int32)) K dX6_isDigit_16 (by decide) ?_
  exact w_X6_isDigit_17 K X h
def F_X6_isDigit (S : Hp) (x0 : Int32) : Option (Int32 × Hp) :=
  if x0 < (48 : Int32) then
    B_X6_isDigit_16 S
  else
    if (57 : Int32) < x0 then
      B_X6_isDigit_16 S
    else
      B_X6_isDigit_17 S (1 : Int32)
set_option maxRecDepth 100000 in
set_option maxHeartbeats 4000000 in
theorem w_X6_isDigit {E : Cx} {l : Launch} {res : Int32 × Hp} {ad : Nat → Nat} {S : Hp} {x0 : Int32} (K : Kx E cX6_isDigit RX6 (rmd 0 0 0)) (X : Bx E l yX6_isDigit 1 (some .boolean) 0 0 ad (QI res)) (h : F_X6_isDigit S x0 = some res) : J E 0 0 0 [(0, vI x0)] [] S ad := by
  refine j_iload_n K dX6_isDigit_0 rfl 0 rfl ?_
  refine j_bipush (v := (48 : Int32)) K dX6_isDigit_1 (by decide) ?_
  refine j_icmp_lt K dX6_isDigit_3 (fun c3 => ?_) (fun c3 => ?_)
  · replace h := it c3 h
    exact j_sub [] rfl (w_X6_isDigit_16 K X h)
  · replace h := ie c3 h
    refine j_iload_n K dX6_isDigit_6 rfl 0 rfl ?_
    refine j_bipush (v := (57 : Int32)) K dX6_isDigit_7 (by decide) ?_
    refine j_icmp_gt K dX6_isDigit_9 (fun c9 => ?_) (fun c9 => ?_)
    · replace h := it c9 h
      exact j_sub [] rfl (w_X6_isDigit_16 K X h)
    · replace h := ie c9 h
      refine j_iconst (v := (1 : Int32)) K dX6_isDigit_12 (by decide) ?_
      refine j_goto K dX6_isDigit_13 ?_
      exact j_sub [] rfl (w_X6_isDigit_17 K X h)
theorem c_X6_isDigit {l : Launch} {S : Hp} {x0 : Int32} {res : Int32 × Hp} (h : F_X6_isDigit S x0 = some res) : Ct l yX6_isDigit cX6_isDigit 1 (some .boolean) (rmd 0 0 0) 0 0 [vI x0] S (QI res) :=
  z_entry (by decide +kernel) (Nat.le_of_ble_eq_true rfl) (fun E ad K X => w_X6_isDigit K X h)

theorem dX6_goesOnAt_0 : decode cX6_goesOnAt 0 = .ok (.aload_n 0, 1) ∧ 0 + 1 = 1 := ⟨by decide +kernel, rfl⟩
theorem dX6_goesOnAt_1 : decode cX6_goesOnAt 1 = .ok (.getfield 9, 3) ∧ 1 + 3 = 4 := ⟨by decide +kernel, rfl⟩
theorem dX6_goesOnAt_4 : decode cX6_goesOnAt 4 = .ok (.iload_n 1, 1) ∧ 4 + 1 = 5 := ⟨by decide +kernel, rfl⟩
theorem dX6_goesOnAt_5 : decode cX6_goesOnAt 5 = .ok (.iconst 1, 1) ∧ 5 + 1 = 6 := ⟨by decide +kernel, rfl⟩
theorem dX6_goesOnAt_6 : decode cX6_goesOnAt 6 = .ok (.isub, 1) ∧ 6 + 1 = 7 := ⟨by decide +kernel, rfl⟩
theorem dX6_goesOnAt_7 : decode cX6_goesOnAt 7 = .ok (.invokestatic 32, 3) := by decide +kernel
theorem dX6_goesOnAt_10 : decode cX6_goesOnAt 10 = .ok (.istore_n 2, 1) ∧ 10 + 1 = 11 := ⟨by decide +kernel, rfl⟩
theorem dX6_goesOnAt_11 : decode cX6_goesOnAt 11 = .ok (.aload_n 0, 1) ∧ 11 + 1 = 12 := ⟨by decide +kernel, rfl⟩
theorem dX6_goesOnAt_12 : decode cX6_goesOnAt 12 = .ok (.getfield 9, 3) ∧ 12 + 3 = 15 := ⟨by decide +kernel, rfl⟩
theorem dX6_goesOnAt_15 : decode cX6_goesOnAt 15 = .ok (.iload_n 1, 1) ∧ 15 + 1 = 16 := ⟨by decide +kernel, rfl⟩
theorem dX6_goesOnAt_16 : decode cX6_goesOnAt 16 = .ok (.invokestatic 32, 3) := by decide +kernel
theorem dX6_goesOnAt_19 : decode cX6_goesOnAt 19 = .ok (.istore_n 3, 1) ∧ 19 + 1 = 20 := ⟨by decide +kernel, rfl⟩
theorem dX6_goesOnAt_20 : decode cX6_goesOnAt 20 = .ok (.iload_n 2, 1) ∧ 20 + 1 = 21 := ⟨by decide +kernel, rfl⟩
theorem dX6_goesOnAt_21 : decode cX6_goesOnAt 21 = .ok (.invokestatic 49, 3) := by decide +kernel
theorem dX6_goesOnAt_24 : decode cX6_goesOnAt 24 = .ok (.ifCond .eq 10, 3) ∧ 24 + 3 = 27 ∧ ((24 : Nat) : Int) + (10) = ((34 : Nat) : Int) := ⟨by decide +kernel, rfl, by decide⟩
theorem dX6_goesOnAt_27 : decode cX6_goesOnAt 27 = .ok (.iload_n 3, 1) ∧ 27 + 1 = 28 := ⟨by decide +kernel, rfl⟩
theorem dX6_goesOnAt_28 : decode cX6_goesOnAt 28 = .ok (.invokestatic 49, 3) := by decide +kernel
theorem dX6_goesOnAt_31 : decode cX6_goesOnAt 31 = .ok (.ifCond .ne 17, 3) ∧ 31 + 3 = 34 ∧ ((31 : Nat) : Int) + (17) = ((48 : Nat) : Int) := ⟨by decide +kernel, rfl, by decide⟩
theorem dX6_goesOnAt_34 : decode cX6_goesOnAt 34 = .ok (.iload_n 2, 1) ∧ 34 + 1 = 35 := ⟨by decide +kernel, rfl⟩
theorem dX6_goesOnAt_35 : decode cX6_goesOnAt 35 = .ok (.invokestatic 52, 3) := by decide +kernel
theorem dX6_goesOnAt_38 : decode cX6_goesOnAt 38 = .ok (.ifCond .eq 14, 3) ∧ 38 + 3 = 41 ∧ ((38 : Nat) : Int) + (14) = ((52 : Nat) : Int) := ⟨by decide +kernel, rfl, by decide⟩
theorem dX6_goesOnAt_41 : decode cX6_goesOnAt 41 = .ok (.iload_n 3, 1) ∧ 41 + 1 = 42 := ⟨by decide +kernel, rfl⟩
theorem dX6_goesOnAt_42 : decode cX6_goesOnAt 42 = .ok (.invokestatic 52, 3) := by decide +kernel
theorem dX6_goesOnAt_45 : decode cX6_goesOnAt 45 = .ok (.ifCond .eq 7, 3) ∧ 45 + 3 = 48 ∧ ((45 : Nat) : Int) + (7) = ((52 : Nat) : Int) := ⟨by decide +kernel, rfl, by decide⟩
theorem dX6_goesOnAt_48 : decode cX6_goesOnAt 48 = .ok (.iconst 1, 1) ∧ 48 + 1 = 49 := ⟨by decide +kernel, rfl⟩
theorem dX6_goesOnAt_49 : decode cX6_goesOnAt 49 = .ok (.goto 4, 3) ∧ ((49 : Nat) : Int) + (4) = ((53 : Nat) : Int) := ⟨by decide +kernel, by decide⟩
theorem dX6_goesOnAt_52 : decode cX6_goesOnAt 52 = .ok (.iconst 0, 1) ∧ 52 + 1 = 53 := ⟨by decide +kernel, rfl⟩
theorem dX6_goesOnAt_53 : decode cX6_goesOnAt 53 = .ok (.ireturn, 1) := by decide +kernel
def B_X6_goesOnAt_53 (o : Nat) (S : Hp) (s0 : Int32) : Option (Int32 × Hp) :=
  zb s0 S
set_option maxRecDepth 100000 in
set_option maxHeartbeats 4000000 in
theorem w_X6_goesOnAt_53 {E : Cx} {l : Launch} {res : Int32 × Hp} {ad : Nat → Nat} {o : Nat} {S : Hp} {s0 : Int32} (K : Kx E cX6_goesOnAt RX6 (rmd 1 0 0)) (X : Bx E l yX6_goesOnAt 4 (some .boolean) 0 0 ad (QI res)) (h : B_X6_goesOnAt_53 o S s0 = some res) : J E 0 0 53 [] [vI s0] S ad := by
  exact j_zret K X dX6_goesOnAt_53 h
def B_X6_goesOnAt_52 (o : Nat) (S : Hp) : Option (Int32 × Hp) :=
  B_X6_goesOnAt_53 o S (0 : Int32)
set_option maxRecDepth 100000 in
set_option maxHeartbeats 4000000 in
theorem w_X6_goesOnAt_52 {E : Cx} {l : Launch} {res : Int32 × Hp} {ad : Nat → Nat} {o : Nat} {S : Hp} (K : Kx E cX6_goesOnAt RX6 (rmd 1 0 0)) (X : Bx E l yX6_goesOnAt 4 (some .boolean) 0 0 ad (QI res)) (h : B_X6_goesOnAt_52 o S = some res) : J E 0 0 52 [] [] S ad := by
  refine j_iconst (v := (0 : Int32)) K dX6_goesOnAt_52 (by decide) ?_
  exact w_X6_goesOnAt_53 K X h
def B_X6_goesOnAt_48 (o : Nat) (S : Hp) : Option (Int32 × Hp) :=
  B_X6_goesOnAt_53 o S (1 : Int32)
set_option maxRecDepth 100000 in
set_option maxHeartbeats 4000000 in
theorem w_X6_goesOnAt_48 {E : Cx} {l : Launch} {res : Int32 × Hp} {ad : Nat → Nat} {o : Nat} {S : Hp} (K : Kx E cX6_goesOnAt RX6 (rmd 1 0 0)) (X : Bx E l yX6_goesOnAt 4 (some .boolean) 0 0 ad (QI res)) (h : B_X6_goesOnAt_48 o S = some res) : J E 0 0 48 [] [] S ad := by
  refine j_iconst (v := (1 : Int32)) K dX6_goesOnAt_48 (by decide) ?_
  refine j_goto K dX6_goesOnAt_49 ?_
  exact w_X6_goesOnAt_53 K X h
def B_X6_goesOnAt_34 (o : Nat) (S : Hp) (x2 : Int32) (x3 : Int32) : Option (Int32 × Hp) :=
  b2 (F_X6_isDigit S x2) fun v35 S35 =>
  if v35 = 0 then
    B_X6_goesOnAt_52 o S35
  else
    b2 (F_X6_isDigit S35 x3) fun v42 S42 =>
    if v42 = 0 then
      B_X6_goesOnAt_52 o S42
    else
      B_X6_goesOnAt_48 o S42
set_option maxRecDepth 100000 in
set_option maxHeartbeats 4000000 in
theorem w_X6_goesOnAt_34 {E : Cx} {l : Launch} {res : Int32 × Hp} {ad : Nat → Nat} {o : Nat} {S : Hp} {x2 : Int32} {x3 : Int32} (K : Kx E cX6_goesOnAt RX6 (rmd 1 0 0)) (X : Bx E l yX6_goesOnAt 4 (some .boolean) 0 0 ad (QI res)) (h : B_X6_goesOnAt_34 o S x2 x3 = some res) : J E 0 0 34 [(2, vI x2), (3, vI x3)] [] S ad := by
  refine j_iload_n K dX6_goesOnAt_34 rfl 0 rfl ?_
  obtain ⟨v35, S35, e35, h⟩ := bd2 h
  refine j_cI (st := []) K (r_S (vs := [vI x2]) (n := 1) K (c_X6_isDigit e35) dX6_goesOnAt_35 z239 z240 z3 z241 ⟨zd_X6_isDigit, rfl, rfl, rfl, ⟨Nat.le_of_ble_eq_true rfl, Nat.le_of_ble_eq_true rfl⟩, Nat.le_of_ble_eq_true rfl, Nat.le_of_ble_eq_true rfl, Nat.le_of_ble_eq_true rfl⟩) rfl ?_
  refine j_if_eq K dX6_goesOnAt_38 (fun c38 => ?_) (fun c38 => ?_)
  · replace h := it c38 h
    exact j_sub [] rfl (w_X6_goesOnAt_52 K X h)
  · replace h := ie c38 h
    refine j_iload_n K dX6_goesOnAt_41 rfl 1 rfl ?_
    obtain ⟨v42, S42, e42, h⟩ := bd2 h
    refine j_cI (st := []) K (r_S (vs := [vI x3]) (n := 1) K (c_X6_isDigit e42) dX6_goesOnAt_42 z239 z240 z3 z241 ⟨zd_X6_isDigit, rfl, rfl, rfl, ⟨Nat.le_of_ble_eq_true rfl, Nat.le_of_ble_eq_true rfl⟩, Nat.le_of_ble_eq_true rfl, Nat.le_of_ble_eq_true rfl, Nat.le_of_ble_eq_true rfl⟩) rfl ?_
    refine j_if_eq K dX6_goesOnAt_45 (fun c45 => ?_) (fun c45 => ?_)
    · replace h := it c45 h
      exact j_sub [] rfl (w_X6_goesOnAt_52 K X h)
    · replace h := ie c45 h
      exact j_sub [] rfl (w_X6_goesOnAt_48 K X h)
def F_X6_goesOnAt (S : Hp) (o : Nat) (x1 : Int32) : Option (Int32 × Hp) :=
  (gR S (some o) 4 0).bind fun v1 =>
  b2 (F_X7_at S v1 (x1 - (1 : Int32))) fun v7 S7 =>
  (gR S7 (some o) 4 0).bind fun v12 =>
  b2 (F_X7_at S7 v12 x1) fun v16 S16 =>
  b2 (F_X6_isLetter S16 v7) fun v21 S21 =>
  if v21 = 0 then
    B_X6_goesOnAt_34 o S21 v7 v16
  else
    b2 (F_X6_isLetter S21 v16) fun v28 S28 =>
    if v28 = 0 then
      B_X6_goesOnAt_34 o S28 v7 v16
    else
      B_X6_goesOnAt_48 o S28
set_option maxRecDepth 100000 in
set_option maxHeartbeats 4000000 in
theorem w_X6_goesOnAt {E : Cx} {l : Launch} {res : Int32 × Hp} {ad : Nat → Nat} {S : Hp} {o : Nat} {x1 : Int32} (K : Kx E cX6_goesOnAt RX6 (rmd 1 0 0)) (X : Bx E l yX6_goesOnAt 4 (some .boolean) 0 0 ad (QI res)) (h : F_X6_goesOnAt S o x1 = some res) : J E 0 0 0 [(0, vR (some o)), (1, vI x1)] [] S ad := by
  refine j_aload_n K dX6_goesOnAt_0 rfl 0 rfl ?_
  obtain ⟨v1, e1, h⟩ := bd h
  refine fgX6_9 K dX6_goesOnAt_1 e1 ?_
  refine j_iload_n K dX6_goesOnAt_4 rfl 1 rfl ?_
  refine j_iconst (v := (1 : Int32)) K dX6_goesOnAt_5 (by decide) ?_
  refine j_isub K dX6_goesOnAt_6 ?_
  obtain ⟨v7, S7, e7, h⟩ := bd2 h
  refine j_cI (st := []) K (r_SN (vs := [vR v1, vI (x1 - (1 : Int32))]) (n := 2) (host := RX7) K (c_X7_at e7) dX6_goesOnAt_7 (List.mem_of_getElem? (i := 4) rfl) z227 z1 z228 ⟨zd_X7_at, rfl, rfl, rfl, ⟨Nat.le_of_ble_eq_true rfl, Nat.le_of_ble_eq_true rfl⟩, Nat.le_of_ble_eq_true rfl, Nat.le_of_ble_eq_true rfl, Nat.le_of_ble_eq_true rfl⟩) rfl ?_
  refine j_istore_n (lv' := [(2, vI v7), (0, vR (some o)), (1, vI x1)]) K dX6_goesOnAt_10 rfl X.2.2.1 (by decide) rfl ?_
  refine j_aload_n K dX6_goesOnAt_11 rfl 1 rfl ?_
  obtain ⟨v12, e12, h⟩ := bd h
  refine fgX6_9 K dX6_goesOnAt_12 e12 ?_
  refine j_iload_n K dX6_goesOnAt_15 rfl 2 rfl ?_
  obtain ⟨v16, S16, e16, h⟩ := bd2 h
  refine j_cI (st := []) K (r_SN (vs := [vR v12, vI x1]) (n := 2) (host := RX7) K (c_X7_at e16) dX6_goesOnAt_16 (List.mem_of_getElem? (i := 4) rfl) z227 z1 z228 ⟨zd_X7_at, rfl, rfl, rfl, ⟨Nat.le_of_ble_eq_true rfl, Nat.le_of_ble_eq_true rfl⟩, Nat.le_of_ble_eq_true rfl, Nat.le_of_ble_eq_true rfl, Nat.le_of_ble_eq_true rfl⟩) rfl ?_
  refine j_istore_n (lv' := [(3, vI v16), (2, vI v7), (0, vR (some o)), (1, vI x1)]) K dX6_goesOnAt_19 rfl X.2.2.1 (by decide) rfl ?_
  refine j_iload_n K dX6_goesOnAt_20 rfl 1 rfl ?_
  obtain ⟨v21, S21, e21, h⟩ := bd2 h
  refine j_cI (st := []) K (r_S (vs := [vI v7]) (n := 1) K (c_X6_isLetter e21) dX6_goesOnAt_21 z236 z237 z3 z238 ⟨zd_X6_isLetter, rfl, rfl, rfl, ⟨Nat.le_of_ble_eq_true rfl, Nat.le_of_ble_eq_true rfl⟩, Nat.le_of_ble_eq_true rfl, Nat.le_of_ble_eq_true rfl, Nat.le_of_ble_eq_true rfl⟩) rfl ?_
  refine j_if_eq K dX6_goesOnAt_24 (fun c24 => ?_) (fun c24 => ?_)
  · replace h := it c24 h
    exact j_sub [1, 0] rfl (w_X6_goesOnAt_34 K X h)
  · replace h := ie c24 h
    refine j_iload_n K dX6_goesOnAt_27 rfl 0 rfl ?_
    obtain ⟨v28, S28, e28, h⟩ := bd2 h
    refine j_cI (st := []) K (r_S (vs := [vI v16]) (n := 1) K (c_X6_isLetter e28) dX6_goesOnAt_28 z236 z237 z3 z238 ⟨zd_X6_isLetter, rfl, rfl, rfl, ⟨Nat.le_of_ble_eq_true rfl, Nat.le_of_ble_eq_true rfl⟩, Nat.le_of_ble_eq_true rfl, Nat.le_of_ble_eq_true rfl, Nat.le_of_ble_eq_true rfl⟩) rfl ?_
    refine j_if_ne K dX6_goesOnAt_31 (fun c31 => ?_) (fun c31 => ?_)
    · replace h := ie c31 h
      exact j_sub [] rfl (w_X6_goesOnAt_48 K X h)
    · replace h := it c31 h
      exact j_sub [1, 0] rfl (w_X6_goesOnAt_34 K X h)
theorem c_X6_goesOnAt {l : Launch} {S : Hp} {o : Nat} {x1 : Int32} {res : Int32 × Hp} (h : F_X6_goesOnAt S o x1 = some res) : Ct l yX6_goesOnAt cX6_goesOnAt 4 (some .boolean) (rmd 1 0 0) 0 0 [vR (some o), vI x1] S (QI res) :=
  z_entry (by decide +kernel) (Nat.le_of_ble_eq_true rfl) (fun E ad K X => w_X6_goesOnAt K X h)

theorem dX5_ofByte_0 : decode cX5_ofByte 0 = .ok (.iload_n 0, 1) ∧ 0 + 1 = 1 := ⟨by decide +kernel, rfl⟩
theorem dX5_ofByte_1 : decode cX5_ofByte 1 = .ok (.tableswitch 105 40 61 #[103, 103, 103, 103, 105, 103, 105, 105, 105, 105, 105, 105, 105, 105, 105, 105, 105, 105, 105, 103, 103, 103], 103) := by decide +kernel
theorem dX5_ofByte_104 : decode cX5_ofByte 104 = .ok (.iload_n 0, 1) ∧ 104 + 1 = 105 := ⟨by decide +kernel, rfl⟩
theorem dX5_ofByte_105 : decode cX5_ofByte 105 = .ok (.ireturn, 1) := by decide +kernel
theorem dX5_ofByte_106 : decode cX5_ofByte 106 = .ok (.iconst 1, 1) ∧ 106 + 1 = 107 := ⟨by decide +kernel, rfl⟩
theorem dX5_ofByte_107 : decode cX5_ofByte 107 = .ok (.ireturn, 1) := by decide +kernel
def F_X5_ofByte (S : Hp) (x0 : Int32) : Option (Int32 × Hp) :=
  if x0 = 40 then
    some (x0, S)
  else
  if x0 = 41 then
    some (x0, S)
  else
  if x0 = 42 then
    some (x0, S)
  else
  if x0 = 43 then
    some (x0, S)
  else
  if x0 = 44 then
    some ((1 : Int32), S)
  else
  if x0 = 45 then
    some (x0, S)
  else
  if x0 = 46 then
    some ((1 : Int32), S)
  else
  if x0 = 47 then
    some ((1 : Int32), S)
  else
  if x0 = 48 then
    some ((1 : Int32), S)
  else
  if x0 = 49 then
    some ((1 : Int32), S)
  else
  if x0 = 50 then
    some ((1 : Int32), S)
  else
  if x0 = 51 then
    some ((1 : Int32), S)
  else
  if x0 = 52 then
    some ((1 : Int32), S)
  else
  if x0 = 53 then
    some ((1 : Int32), S)
  else
  if x0 = 54 then
    some ((1 : Int32), S)
  else
  if x0 = 55 then
    some ((1 : Int32), S)
  else
  if x0 = 56 then
    some ((1 : Int32), S)
  else
  if x0 = 57 then
    some ((1 : Int32), S)
  else
  if x0 = 58 then
    some ((1 : Int32), S)
  else
  if x0 = 59 then
    some (x0, S)
  else
  if x0 = 60 then
    some (x0, S)
  else
  if x0 = 61 then
    some (x0, S)
  else
  some ((1 : Int32), S)
set_option maxRecDepth 100000 in
set_option maxHeartbeats 4000000 in
theorem w_X5_ofByte {E : Cx} {l : Launch} {res : Int32 × Hp} {ad : Nat → Nat} {S : Hp} {x0 : Int32} (K : Kx E cX5_ofByte RX5 (rmd 0 0 0)) (X : Bx E l yX5_ofByte 1 (some .int) 0 0 ad (QI res)) (h : F_X5_ofByte S x0 = some res) : J E 0 0 0 [(0, vI x0)] [] S ad := by
  refine j_iload_n K dX5_ofByte_0 rfl 0 rfl ?_
  by_cases c1_40 : x0 = 40
  · replace h := it c1_40 h
    have t1 : x0.toInt = 40 := by rw [c1_40]; rfl
    refine j_tin (tgt := 104) K dX5_ofByte_1 (by rw [t1]; decide) (by rw [t1]; decide) (by rw [t1]; rfl) (by decide) ?_
    refine j_iload_n K dX5_ofByte_104 rfl 0 rfl ?_
    exact j_iret K X dX5_ofByte_105 h
  replace h := ie c1_40 h
  by_cases c1_41 : x0 = 41
  · replace h := it c1_41 h
    have t1 : x0.toInt = 41 := by rw [c1_41]; rfl
    refine j_tin (tgt := 104) K dX5_ofByte_1 (by rw [t1]; decide) (by rw [t1]; decide) (by rw [t1]; rfl) (by decide) ?_
    refine j_iload_n K dX5_ofByte_104 rfl 0 rfl ?_
    exact j_iret K X dX5_ofByte_105 h
  replace h := ie c1_41 h
  by_cases c1_42 : x0 = 42
  · replace h := it c1_42 h
    have t1 : x0.toInt = 42 := by rw [c1_42]; rfl
    refine j_tin (tgt := 104) K dX5_ofByte_1 (by rw [t1]; decide) (by rw [t1]; decide) (by rw [t1]; rfl) (by decide) ?_
    refine j_iload_n K dX5_ofByte_104 rfl 0 rfl ?_
    exact j_iret K X dX5_ofByte_105 h
  replace h := ie c1_42 h
  by_cases c1_43 : x0 = 43
  · replace h := it c1_43 h
    have t1 : x0.toInt = 43 := by rw [c1_43]; rfl
    refine j_tin (tgt := 104) K dX5_ofByte_1 (by rw [t1]; decide) (by rw [t1]; decide) (by rw [t1]; rfl) (by decide) ?_
    refine j_iload_n K dX5_ofByte_104 rfl 0 rfl ?_
    exact j_iret K X dX5_ofByte_105 h
  replace h := ie c1_43 h
  by_cases c1_44 : x0 = 44
  · replace h := it c1_44 h
    have t1 : x0.toInt = 44 := by rw [c1_44]; rfl
    refine j_tin (tgt := 106) K dX5_ofByte_1 (by rw [t1]; decide) (by rw [t1]; decide) (by rw [t1]; rfl) (by decide) ?_
    refine j_iconst (v := (1 : Int32)) K dX5_ofByte_106 (by decide) ?_
    exact j_iret K X dX5_ofByte_107 h
  replace h := ie c1_44 h
  by_cases c1_45 : x0 = 45
  · replace h := it c1_45 h
    have t1 : x0.toInt = 45 := by rw [c1_45]; rfl
    refine j_tin (tgt := 104) K dX5_ofByte_1 (by rw [t1]; decide) (by rw [t1]; decide) (by rw [t1]; rfl) (by decide) ?_
    refine j_iload_n K dX5_ofByte_104 rfl 0 rfl ?_
    exact j_iret K X dX5_ofByte_105 h
  replace h := ie c1_45 h
  by_cases c1_46 : x0 = 46
  · replace h := it c1_46 h
    have t1 : x0.toInt = 46 := by rw [c1_46]; rfl
    refine j_tin (tgt := 106) K dX5_ofByte_1 (by rw [t1]; decide) (by rw [t1]; decide) (by rw [t1]; rfl) (by decide) ?_
    refine j_iconst (v := (1 : Int32)) K dX5_ofByte_106 (by decide) ?_
    exact j_iret K X dX5_ofByte_107 h
  replace h := ie c1_46 h
  by_cases c1_47 : x0 = 47
  · replace h := it c1_47 h
    have t1 : x0.toInt = 47 := by rw [c1_47]; rfl
    refine j_tin (tgt := 106) K dX5_ofByte_1 (by rw [t1]; decide) (by rw [t1]; decide) (by rw [t1]; rfl) (by decide) ?_
    refine j_iconst (v := (1 : Int32)) K dX5_ofByte_106 (by decide) ?_
    exact j_iret K X dX5_ofByte_107 h
  replace h := ie c1_47 h
  by_cases c1_48 : x0 = 48
  · replace h := it c1_48 h
    have t1 : x0.toInt = 48 := by rw [c1_48]; rfl
    refine j_tin (tgt := 106) K dX5_ofByte_1 (by rw [t1]; decide) (by rw [t1]; decide) (by rw [t1]; rfl) (by decide) ?_
    refine j_iconst (v := (1 : Int32)) K dX5_ofByte_106 (by decide) ?_
    exact j_iret K X dX5_ofByte_107 h
  replace h := ie c1_48 h
  by_cases c1_49 : x0 = 49
  · replace h := it c1_49 h
    have t1 : x0.toInt = 49 := by rw [c1_49]; rfl
    refine j_tin (tgt := 106) K dX5_ofByte_1 (by rw [t1]; decide) (by rw [t1]; decide) (by rw [t1]; rfl) (by decide) ?_
    refine j_iconst (v := (1 : Int32)) K dX5_ofByte_106 (by decide) ?_
    exact j_iret K X dX5_ofByte_107 h
  replace h := ie c1_49 h
  by_cases c1_50 : x0 = 50
  · replace h := it c1_50 h
    have t1 : x0.toInt = 50 := by rw [c1_50]; rfl
    refine j_tin (tgt := 106) K dX5_ofByte_1 (by rw [t1]; decide) (by rw [t1]; decide) (by rw [t1]; rfl) (by decide) ?_
    refine j_iconst (v := (1 : Int32)) K dX5_ofByte_106 (by decide) ?_
    exact j_iret K X dX5_ofByte_107 h
  replace h := ie c1_50 h
  by_cases c1_51 : x0 = 51
  · replace h := it c1_51 h
    have t1 : x0.toInt = 51 := by rw [c1_51]; rfl
    refine j_tin (tgt := 106) K dX5_ofByte_1 (by rw [t1]; decide) (by rw [t1]; decide) (by rw [t1]; rfl) (by decide) ?_
    refine j_iconst (v := (1 : Int32)) K dX5_ofByte_106 (by decide) ?_
    exact j_iret K X dX5_ofByte_107 h
  replace h := ie c1_51 h
  by_cases c1_52 : x0 = 52
  · replace h := it c1_52 h
    have t1 : x0.toInt = 52 := by rw [c1_52]; rfl
    refine j_tin (tgt := 106) K dX5_ofByte_1 (by rw [t1]; decide) (by rw [t1]; decide) (by rw [t1]; rfl) (by decide) ?_
    refine j_iconst (v := (1 : Int32)) K dX5_ofByte_106 (by decide) ?_
    exact j_iret K X dX5_ofByte_107 h
  replace h := ie c1_52 h
  by_cases c1_53 : x0 = 53
  · replace h := it c1_53 h
    have t1 : x0.toInt = 53 := by rw [c1_53]; rfl
    refine j_tin (tgt := 106) K dX5_ofByte_1 (by rw [t1]; decide) (by rw [t1]; decide) (by rw [t1]; rfl) (by decide) ?_
    refine j_iconst (v := (1 : Int32)) K dX5_ofByte_106 (by decide) ?_
    exact j_iret K X dX5_ofByte_107 h
  replace h := ie c1_53 h
  by_cases c1_54 : x0 = 54
  · replace h := it c1_54 h
    have t1 : x0.toInt = 54 := by rw [c1_54]; rfl
    refine j_tin (tgt := 106) K dX5_ofByte_1 (by rw [t1]; decide) (by rw [t1]; decide) (by rw [t1]; rfl) (by decide) ?_
    refine j_iconst (v := (1 : Int32)) K dX5_ofByte_106 (by decide) ?_
    exact j_iret K X dX5_ofByte_107 h
  replace h := ie c1_54 h
  by_cases c1_55 : x0 = 55
  · replace h := it c1_55 h
    have t1 : x0.toInt = 55 := by rw [c1_55]; rfl
    refine j_tin (tgt := 106) K dX5_ofByte_1 (by rw [t1]; decide) (by rw [t1]; decide) (by rw [t1]; rfl) (by decide) ?_
    refine j_iconst (v := (1 : Int32)) K dX5_ofByte_106 (by decide) ?_
    exact j_iret K X dX5_ofByte_107 h
  replace h := ie c1_55 h
  by_cases c1_56 : x0 = 56
  · replace h := it c1_56 h
    have t1 : x0.toInt = 56 := by rw [c1_56]; rfl
    refine j_tin (tgt := 106) K dX5_ofByte_1 (by rw [t1]; decide) (by rw [t1]; decide) (by rw [t1]; rfl) (by decide) ?_
    refine j_iconst (v := (1 : Int32)) K dX5_ofByte_106 (by decide) ?_
    exact j_iret K X dX5_ofByte_107 h
  replace h := ie c1_56 h
  by_cases c1_57 : x0 = 57
  · replace h := it c1_57 h
    have t1 : x0.toInt = 57 := by rw [c1_57]; rfl
    refine j_tin (tgt := 106) K dX5_ofByte_1 (by rw [t1]; decide) (by rw [t1]; decide) (by rw [t1]; rfl) (by decide) ?_
    refine j_iconst (v := (1 : Int32)) K dX5_ofByte_106 (by decide) ?_
    exact j_iret K X dX5_ofByte_107 h
  replace h := ie c1_57 h
  by_cases c1_58 : x0 = 58
  · replace h := it c1_58 h
    have t1 : x0.toInt = 58 := by rw [c1_58]; rfl
    refine j_tin (tgt := 106) K dX5_ofByte_1 (by rw [t1]; decide) (by rw [t1]; decide) (by rw [t1]; rfl) (by decide) ?_
    refine j_iconst (v := (1 : Int32)) K dX5_ofByte_106 (by decide) ?_
    exact j_iret K X dX5_ofByte_107 h
  replace h := ie c1_58 h
  by_cases c1_59 : x0 = 59
  · replace h := it c1_59 h
    have t1 : x0.toInt = 59 := by rw [c1_59]; rfl
    refine j_tin (tgt := 104) K dX5_ofByte_1 (by rw [t1]; decide) (by rw [t1]; decide) (by rw [t1]; rfl) (by decide) ?_
    refine j_iload_n K dX5_ofByte_104 rfl 0 rfl ?_
    exact j_iret K X dX5_ofByte_105 h
  replace h := ie c1_59 h
  by_cases c1_60 : x0 = 60
  · replace h := it c1_60 h
    have t1 : x0.toInt = 60 := by rw [c1_60]; rfl
    refine j_tin (tgt := 104) K dX5_ofByte_1 (by rw [t1]; decide) (by rw [t1]; decide) (by rw [t1]; rfl) (by decide) ?_
    refine j_iload_n K dX5_ofByte_104 rfl 0 rfl ?_
    exact j_iret K X dX5_ofByte_105 h
  replace h := ie c1_60 h
  by_cases c1_61 : x0 = 61
  · replace h := it c1_61 h
    have t1 : x0.toInt = 61 := by rw [c1_61]; rfl
    refine j_tin (tgt := 104) K dX5_ofByte_1 (by rw [t1]; decide) (by rw [t1]; decide) (by rw [t1]; rfl) (by decide) ?_
    refine j_iload_n K dX5_ofByte_104 rfl 0 rfl ?_
    exact j_iret K X dX5_ofByte_105 h
  replace h := ie c1_61 h
  have t1_40 : x0.toInt ≠ 40 := swn rfl c1_40
  have t1_41 : x0.toInt ≠ 41 := swn rfl c1_41
  have t1_42 : x0.toInt ≠ 42 := swn rfl c1_42
  have t1_43 : x0.toInt ≠ 43 := swn rfl c1_43
  have t1_44 : x0.toInt ≠ 44 := swn rfl c1_44
  have t1_45 : x0.toInt ≠ 45 := swn rfl c1_45
  have t1_46 : x0.toInt ≠ 46 := swn rfl c1_46
  have t1_47 : x0.toInt ≠ 47 := swn rfl c1_47
  have t1_48 : x0.toInt ≠ 48 := swn rfl c1_48
  have t1_49 : x0.toInt ≠ 49 := swn rfl c1_49
  have t1_50 : x0.toInt ≠ 50 := swn rfl c1_50
  have t1_51 : x0.toInt ≠ 51 := swn rfl c1_51
  have t1_52 : x0.toInt ≠ 52 := swn rfl c1_52
  have t1_53 : x0.toInt ≠ 53 := swn rfl c1_53
  have t1_54 : x0.toInt ≠ 54 := swn rfl c1_54
  have t1_55 : x0.toInt ≠ 55 := swn rfl c1_55
  have t1_56 : x0.toInt ≠ 56 := swn rfl c1_56
  have t1_57 : x0.toInt ≠ 57 := swn rfl c1_57
  have t1_58 : x0.toInt ≠ 58 := swn rfl c1_58
  have t1_59 : x0.toInt ≠ 59 := swn rfl c1_59
  have t1_60 : x0.toInt ≠ 60 := swn rfl c1_60
  have t1_61 : x0.toInt ≠ 61 := swn rfl c1_61
  refine j_tout (tgt := 106) K dX5_ofByte_1 (by omega) (by decide) ?_
  refine j_iconst (v := (1 : Int32)) K dX5_ofByte_106 (by decide) ?_
  exact j_iret K X dX5_ofByte_107 h
theorem c_X5_ofByte {l : Launch} {S : Hp} {x0 : Int32} {res : Int32 × Hp} (h : F_X5_ofByte S x0 = some res) : Ct l yX5_ofByte cX5_ofByte 1 (some .int) (rmd 0 0 0) 0 0 [vI x0] S (QI res) :=
  z_entry (by decide +kernel) (Nat.le_of_ble_eq_true rfl) (fun E ad K X => w_X5_ofByte K X h)

theorem dX5_spelling_0 : decode cX5_spelling 0 = .ok (.iload_n 0, 1) ∧ 0 + 1 = 1 := ⟨by decide +kernel, rfl⟩
theorem dX5_spelling_1 : decode cX5_spelling 1 = .ok (.tableswitch 99 10 21 #[63, 66, 69, 72, 75, 78, 81, 84, 87, 90, 93, 96], 63) := by decide +kernel
theorem dX5_spelling_64 : decode cX5_spelling 64 = .ok (.ldc 9, 2) ∧ 64 + 2 = 66 := ⟨by decide +kernel, rfl⟩
theorem dX5_spelling_66 : decode cX5_spelling 66 = .ok (.areturn, 1) := by decide +kernel
theorem dX5_spelling_67 : decode cX5_spelling 67 = .ok (.ldc 11, 2) ∧ 67 + 2 = 69 := ⟨by decide +kernel, rfl⟩
theorem dX5_spelling_69 : decode cX5_spelling 69 = .ok (.areturn, 1) := by decide +kernel
theorem dX5_spelling_70 : decode cX5_spelling 70 = .ok (.ldc 13, 2) ∧ 70 + 2 = 72 := ⟨by decide +kernel, rfl⟩
theorem dX5_spelling_72 : decode cX5_spelling 72 = .ok (.areturn, 1) := by decide +kernel
theorem dX5_spelling_73 : decode cX5_spelling 73 = .ok (.ldc 15, 2) ∧ 73 + 2 = 75 := ⟨by decide +kernel, rfl⟩
theorem dX5_spelling_75 : decode cX5_spelling 75 = .ok (.areturn, 1) := by decide +kernel
theorem dX5_spelling_76 : decode cX5_spelling 76 = .ok (.ldc 17, 2) ∧ 76 + 2 = 78 := ⟨by decide +kernel, rfl⟩
theorem dX5_spelling_78 : decode cX5_spelling 78 = .ok (.areturn, 1) := by decide +kernel
theorem dX5_spelling_79 : decode cX5_spelling 79 = .ok (.ldc 19, 2) ∧ 79 + 2 = 81 := ⟨by decide +kernel, rfl⟩
theorem dX5_spelling_81 : decode cX5_spelling 81 = .ok (.areturn, 1) := by decide +kernel
theorem dX5_spelling_82 : decode cX5_spelling 82 = .ok (.ldc 21, 2) ∧ 82 + 2 = 84 := ⟨by decide +kernel, rfl⟩
theorem dX5_spelling_84 : decode cX5_spelling 84 = .ok (.areturn, 1) := by decide +kernel
theorem dX5_spelling_85 : decode cX5_spelling 85 = .ok (.ldc 23, 2) ∧ 85 + 2 = 87 := ⟨by decide +kernel, rfl⟩
theorem dX5_spelling_87 : decode cX5_spelling 87 = .ok (.areturn, 1) := by decide +kernel
theorem dX5_spelling_88 : decode cX5_spelling 88 = .ok (.ldc 25, 2) ∧ 88 + 2 = 90 := ⟨by decide +kernel, rfl⟩
theorem dX5_spelling_90 : decode cX5_spelling 90 = .ok (.areturn, 1) := by decide +kernel
theorem dX5_spelling_91 : decode cX5_spelling 91 = .ok (.ldc 27, 2) ∧ 91 + 2 = 93 := ⟨by decide +kernel, rfl⟩
theorem dX5_spelling_93 : decode cX5_spelling 93 = .ok (.areturn, 1) := by decide +kernel
theorem dX5_spelling_94 : decode cX5_spelling 94 = .ok (.ldc 29, 2) ∧ 94 + 2 = 96 := ⟨by decide +kernel, rfl⟩
theorem dX5_spelling_96 : decode cX5_spelling 96 = .ok (.areturn, 1) := by decide +kernel
theorem dX5_spelling_97 : decode cX5_spelling 97 = .ok (.ldc 31, 2) ∧ 97 + 2 = 99 := ⟨by decide +kernel, rfl⟩
theorem dX5_spelling_99 : decode cX5_spelling 99 = .ok (.areturn, 1) := by decide +kernel
theorem dX5_spelling_100 : decode cX5_spelling 100 = .ok (.ldc 33, 2) ∧ 100 + 2 = 102 := ⟨by decide +kernel, rfl⟩
theorem dX5_spelling_102 : decode cX5_spelling 102 = .ok (.areturn, 1) := by decide +kernel
def F_X5_spelling (S : Hp) (x0 : Int32) : Option (Nat × Hp) :=
  if x0 = 10 then
    some (1, S)
  else
  if x0 = 11 then
    some (2, S)
  else
  if x0 = 12 then
    some (3, S)
  else
  if x0 = 13 then
    some (4, S)
  else
  if x0 = 14 then
    some (5, S)
  else
  if x0 = 15 then
    some (6, S)
  else
  if x0 = 16 then
    some (7, S)
  else
  if x0 = 17 then
    some (8, S)
  else
  if x0 = 18 then
    some (9, S)
  else
  if x0 = 19 then
    some (10, S)
  else
  if x0 = 20 then
    some (11, S)
  else
  if x0 = 21 then
    some (12, S)
  else
  some (13, S)
set_option maxRecDepth 100000 in
set_option maxHeartbeats 4000000 in
theorem w_X5_spelling {E : Cx} {l : Launch} {res : Nat × Hp} {ad : Nat → Nat} {S : Hp} {x0 : Int32} (K : Kx E cX5_spelling RX5 (rmd 0 0 0)) (X : Bx E l yX5_spelling 1 (some (.object "java/lang/String")) 0 0 ad (QK res)) (h : F_X5_spelling S x0 = some res) : J E 0 0 0 [(0, vI x0)] [] S ad := by
  refine j_iload_n K dX5_spelling_0 rfl 0 rfl ?_
  by_cases c1_10 : x0 = 10
  · replace h := it c1_10 h
    have t1 : x0.toInt = 10 := by rw [c1_10]; rfl
    refine j_tin (tgt := 64) K dX5_spelling_1 (by rw [t1]; decide) (by rw [t1]; decide) (by rw [t1]; rfl) (by decide) ?_
    refine j_ldcS K (by decide) (List.mem_of_getElem? (i := 1) rfl) dX5_spelling_64 ?_
    exact j_kret K X dX5_spelling_66 h
  replace h := ie c1_10 h
  by_cases c1_11 : x0 = 11
  · replace h := it c1_11 h
    have t1 : x0.toInt = 11 := by rw [c1_11]; rfl
    refine j_tin (tgt := 67) K dX5_spelling_1 (by rw [t1]; decide) (by rw [t1]; decide) (by rw [t1]; rfl) (by decide) ?_
    refine j_ldcS K (by decide) (List.mem_of_getElem? (i := 2) rfl) dX5_spelling_67 ?_
    exact j_kret K X dX5_spelling_69 h
  replace h := ie c1_11 h
  by_cases c1_12 : x0 = 12
  · replace h := it c1_12 h
    have t1 : x0.toInt = 12 := by rw [c1_12]; rfl
    refine j_tin (tgt := 70) K dX5_spelling_1 (by rw [t1]; decide) (by rw [t1]; decide) (by rw [t1]; rfl) (by decide) ?_
    refine j_ldcS K (by decide) (List.mem_of_getElem? (i := 3) rfl) dX5_spelling_70 ?_
    exact j_kret K X dX5_spelling_72 h
  replace h := ie c1_12 h
  by_cases c1_13 : x0 = 13
  · replace h := it c1_13 h
    have t1 : x0.toInt = 13 := by rw [c1_13]; rfl
    refine j_tin (tgt := 73) K dX5_spelling_1 (by rw [t1]; decide) (by rw [t1]; decide) (by rw [t1]; rfl) (by decide) ?_
    refine j_ldcS K (by decide) (List.mem_of_getElem? (i := 4) rfl) dX5_spelling_73 ?_
    exact j_kret K X dX5_spelling_75 h
  replace h := ie c1_13 h
  by_cases c1_14 : x0 = 14
  · replace h := it c1_14 h
    have t1 : x0.toInt = 14 := by rw [c1_14]; rfl
    refine j_tin (tgt := 76) K dX5_spelling_1 (by rw [t1]; decide) (by rw [t1]; decide) (by rw [t1]; rfl) (by decide) ?_
    refine j_ldcS K (by decide) (List.mem_of_getElem? (i := 5) rfl) dX5_spelling_76 ?_
    exact j_kret K X dX5_spelling_78 h
  replace h := ie c1_14 h
  by_cases c1_15 : x0 = 15
  · replace h := it c1_15 h
    have t1 : x0.toInt = 15 := by rw [c1_15]; rfl
    refine j_tin (tgt := 79) K dX5_spelling_1 (by rw [t1]; decide) (by rw [t1]; decide) (by rw [t1]; rfl) (by decide) ?_
    refine j_ldcS K (by decide) (List.mem_of_getElem? (i := 6) rfl) dX5_spelling_79 ?_
    exact j_kret K X dX5_spelling_81 h
  replace h := ie c1_15 h
  by_cases c1_16 : x0 = 16
  · replace h := it c1_16 h
    have t1 : x0.toInt = 16 := by rw [c1_16]; rfl
    refine j_tin (tgt := 82) K dX5_spelling_1 (by rw [t1]; decide) (by rw [t1]; decide) (by rw [t1]; rfl) (by decide) ?_
    refine j_ldcS K (by decide) (List.mem_of_getElem? (i := 7) rfl) dX5_spelling_82 ?_
    exact j_kret K X dX5_spelling_84 h
  replace h := ie c1_16 h
  by_cases c1_17 : x0 = 17
  · replace h := it c1_17 h
    have t1 : x0.toInt = 17 := by rw [c1_17]; rfl
    refine j_tin (tgt := 85) K dX5_spelling_1 (by rw [t1]; decide) (by rw [t1]; decide) (by rw [t1]; rfl) (by decide) ?_
    refine j_ldcS K (by decide) (List.mem_of_getElem? (i := 8) rfl) dX5_spelling_85 ?_
    exact j_kret K X dX5_spelling_87 h
  replace h := ie c1_17 h
  by_cases c1_18 : x0 = 18
  · replace h := it c1_18 h
    have t1 : x0.toInt = 18 := by rw [c1_18]; rfl
    refine j_tin (tgt := 88) K dX5_spelling_1 (by rw [t1]; decide) (by rw [t1]; decide) (by rw [t1]; rfl) (by decide) ?_
    refine j_ldcS K (by decide) (List.mem_of_getElem? (i := 9) rfl) dX5_spelling_88 ?_
    exact j_kret K X dX5_spelling_90 h
  replace h := ie c1_18 h
  by_cases c1_19 : x0 = 19
  · replace h := it c1_19 h
    have t1 : x0.toInt = 19 := by rw [c1_19]; rfl
    refine j_tin (tgt := 91) K dX5_spelling_1 (by rw [t1]; decide) (by rw [t1]; decide) (by rw [t1]; rfl) (by decide) ?_
    refine j_ldcS K (by decide) (List.mem_of_getElem? (i := 10) rfl) dX5_spelling_91 ?_
    exact j_kret K X dX5_spelling_93 h
  replace h := ie c1_19 h
  by_cases c1_20 : x0 = 20
  · replace h := it c1_20 h
    have t1 : x0.toInt = 20 := by rw [c1_20]; rfl
    refine j_tin (tgt := 94) K dX5_spelling_1 (by rw [t1]; decide) (by rw [t1]; decide) (by rw [t1]; rfl) (by decide) ?_
    refine j_ldcS K (by decide) (List.mem_of_getElem? (i := 11) rfl) dX5_spelling_94 ?_
    exact j_kret K X dX5_spelling_96 h
  replace h := ie c1_20 h
  by_cases c1_21 : x0 = 21
  · replace h := it c1_21 h
    have t1 : x0.toInt = 21 := by rw [c1_21]; rfl
    refine j_tin (tgt := 97) K dX5_spelling_1 (by rw [t1]; decide) (by rw [t1]; decide) (by rw [t1]; rfl) (by decide) ?_
    refine j_ldcS K (by decide) (List.mem_of_getElem? (i := 12) rfl) dX5_spelling_97 ?_
    exact j_kret K X dX5_spelling_99 h
  replace h := ie c1_21 h
  have t1_10 : x0.toInt ≠ 10 := swn rfl c1_10
  have t1_11 : x0.toInt ≠ 11 := swn rfl c1_11
  have t1_12 : x0.toInt ≠ 12 := swn rfl c1_12
  have t1_13 : x0.toInt ≠ 13 := swn rfl c1_13
  have t1_14 : x0.toInt ≠ 14 := swn rfl c1_14
  have t1_15 : x0.toInt ≠ 15 := swn rfl c1_15
  have t1_16 : x0.toInt ≠ 16 := swn rfl c1_16
  have t1_17 : x0.toInt ≠ 17 := swn rfl c1_17
  have t1_18 : x0.toInt ≠ 18 := swn rfl c1_18
  have t1_19 : x0.toInt ≠ 19 := swn rfl c1_19
  have t1_20 : x0.toInt ≠ 20 := swn rfl c1_20
  have t1_21 : x0.toInt ≠ 21 := swn rfl c1_21
  refine j_tout (tgt := 100) K dX5_spelling_1 (by omega) (by decide) ?_
  refine j_ldcS K (by decide) (List.mem_of_getElem? (i := 13) rfl) dX5_spelling_100 ?_
  exact j_kret K X dX5_spelling_102 h
theorem c_X5_spelling {l : Launch} {S : Hp} {x0 : Int32} {res : Nat × Hp} (h : F_X5_spelling S x0 = some res) : Ct l yX5_spelling cX5_spelling 1 (some (.object "java/lang/String")) (rmd 0 0 0) 0 0 [vI x0] S (QK res) :=
  z_entry (by decide +kernel) (Nat.le_of_ble_eq_true rfl) (fun E ad K X => w_X5_spelling K X h)

theorem dX6_isSpelled_0 : decode cX6_isSpelled 0 = .ok (.iload_n 2, 1) ∧ 0 + 1 = 1 := ⟨by decide +kernel, rfl⟩
theorem dX6_isSpelled_1 : decode cX6_isSpelled 1 = .ok (.iload_n 1, 1) ∧ 1 + 1 = 2 := ⟨by decide +kernel, rfl⟩
theorem dX6_isSpelled_2 : decode cX6_isSpelled 2 = .ok (.isub, 1) ∧ 2 + 1 = 3 := ⟨by decide +kernel, rfl⟩
theorem dX6_isSpelled_3 : decode cX6_isSpelled 3 = .ok (.aload_n 3, 1) ∧ 3 + 1 = 4 := ⟨by decide +kernel, rfl⟩
theorem dX6_isSpelled_4 : decode cX6_isSpelled 4 = .ok (.invokevirtual 67, 3) := by decide +kernel
theorem dX6_isSpelled_7 : decode cX6_isSpelled 7 = .ok (.if_icmp .ne 7, 3) ∧ 7 + 3 = 10 ∧ ((7 : Nat) : Int) + (7) = ((14 : Nat) : Int) := ⟨by decide +kernel, rfl, by decide⟩
theorem dX6_isSpelled_10 : decode cX6_isSpelled 10 = .ok (.iconst 1, 1) ∧ 10 + 1 = 11 := ⟨by decide +kernel, rfl⟩
theorem dX6_isSpelled_11 : decode cX6_isSpelled 11 = .ok (.goto 4, 3) ∧ ((11 : Nat) : Int) + (4) = ((15 : Nat) : Int) := ⟨by decide +kernel, by decide⟩
theorem dX6_isSpelled_14 : decode cX6_isSpelled 14 = .ok (.iconst 0, 1) ∧ 14 + 1 = 15 := ⟨by decide +kernel, rfl⟩
theorem dX6_isSpelled_15 : decode cX6_isSpelled 15 = .ok (.istore 4, 2) ∧ 15 + 2 = 17 := ⟨by decide +kernel, rfl⟩
theorem dX6_isSpelled_17 : decode cX6_isSpelled 17 = .ok (.iconst 0, 1) ∧ 17 + 1 = 18 := ⟨by decide +kernel, rfl⟩
theorem dX6_isSpelled_18 : decode cX6_isSpelled 18 = .ok (.istore 5, 2) ∧ 18 + 2 = 20 := ⟨by decide +kernel, rfl⟩
theorem dX6_isSpelled_20 : decode cX6_isSpelled 20 = .ok (.iload 4, 2) ∧ 20 + 2 = 22 := ⟨by decide +kernel, rfl⟩
theorem dX6_isSpelled_22 : decode cX6_isSpelled 22 = .ok (.ifCond .eq 45, 3) ∧ 22 + 3 = 25 ∧ ((22 : Nat) : Int) + (45) = ((67 : Nat) : Int) := ⟨by decide +kernel, rfl, by decide⟩
theorem dX6_isSpelled_25 : decode cX6_isSpelled 25 = .ok (.iload 5, 2) ∧ 25 + 2 = 27 := ⟨by decide +kernel, rfl⟩
theorem dX6_isSpelled_27 : decode cX6_isSpelled 27 = .ok (.aload_n 3, 1) ∧ 27 + 1 = 28 := ⟨by decide +kernel, rfl⟩
theorem dX6_isSpelled_28 : decode cX6_isSpelled 28 = .ok (.invokevirtual 67, 3) := by decide +kernel
theorem dX6_isSpelled_31 : decode cX6_isSpelled 31 = .ok (.if_icmp .ge 36, 3) ∧ 31 + 3 = 34 ∧ ((31 : Nat) : Int) + (36) = ((67 : Nat) : Int) := ⟨by decide +kernel, rfl, by decide⟩
theorem dX6_isSpelled_34 : decode cX6_isSpelled 34 = .ok (.aload_n 0, 1) ∧ 34 + 1 = 35 := ⟨by decide +kernel, rfl⟩
theorem dX6_isSpelled_35 : decode cX6_isSpelled 35 = .ok (.getfield 9, 3) ∧ 35 + 3 = 38 := ⟨by decide +kernel, rfl⟩
theorem dX6_isSpelled_38 : decode cX6_isSpelled 38 = .ok (.iload_n 1, 1) ∧ 38 + 1 = 39 := ⟨by decide +kernel, rfl⟩
theorem dX6_isSpelled_39 : decode cX6_isSpelled 39 = .ok (.iload 5, 2) ∧ 39 + 2 = 41 := ⟨by decide +kernel, rfl⟩
theorem dX6_isSpelled_41 : decode cX6_isSpelled 41 = .ok (.iadd, 1) ∧ 41 + 1 = 42 := ⟨by decide +kernel, rfl⟩
theorem dX6_isSpelled_42 : decode cX6_isSpelled 42 = .ok (.invokestatic 32, 3) := by decide +kernel
theorem dX6_isSpelled_45 : decode cX6_isSpelled 45 = .ok (.aload_n 3, 1) ∧ 45 + 1 = 46 := ⟨by decide +kernel, rfl⟩
theorem dX6_isSpelled_46 : decode cX6_isSpelled 46 = .ok (.iload 5, 2) ∧ 46 + 2 = 48 := ⟨by decide +kernel, rfl⟩
theorem dX6_isSpelled_48 : decode cX6_isSpelled 48 = .ok (.invokevirtual 73, 3) := by decide +kernel
theorem dX6_isSpelled_51 : decode cX6_isSpelled 51 = .ok (.if_icmp .ne 7, 3) ∧ 51 + 3 = 54 ∧ ((51 : Nat) : Int) + (7) = ((58 : Nat) : Int) := ⟨by decide +kernel, rfl, by decide⟩
theorem dX6_isSpelled_54 : decode cX6_isSpelled 54 = .ok (.iconst 1, 1) ∧ 54 + 1 = 55 := ⟨by decide +kernel, rfl⟩
theorem dX6_isSpelled_55 : decode cX6_isSpelled 55 = .ok (.goto 4, 3) ∧ ((55 : Nat) : Int) + (4) = ((59 : Nat) : Int) := ⟨by decide +kernel, by decide⟩
theorem dX6_isSpelled_58 : decode cX6_isSpelled 58 = .ok (.iconst 0, 1) ∧ 58 + 1 = 59 := ⟨by decide +kernel, rfl⟩
theorem dX6_isSpelled_59 : decode cX6_isSpelled 59 = .ok (.istore 4, 2) ∧ 59 + 2 = 61 := ⟨by decide +kernel, rfl⟩
theorem dX6_isSpelled_61 : decode cX6_isSpelled 61 = .ok (.iinc 5 1, 3) ∧ 61 + 3 = 64 := ⟨by decide +kernel, rfl⟩
theorem dX6_isSpelled_64 : decode cX6_isSpelled 64 = .ok (.goto (-44), 3) ∧ ((64 : Nat) : Int) + (-44) = ((20 : Nat) : Int) := ⟨by decide +kernel, by decide⟩
theorem dX6_isSpelled_67 : decode cX6_isSpelled 67 = .ok (.iload 4, 2) ∧ 67 + 2 = 69 := ⟨by decide +kernel, rfl⟩
theorem dX6_isSpelled_69 : decode cX6_isSpelled 69 = .ok (.ireturn, 1) := by decide +kernel
def B_X6_isSpelled_67 (fu : Nat) (o : Nat) (S : Hp) (x4 : Int32) : Option (Int32 × Hp) :=
  zb x4 S
set_option maxRecDepth 100000 in
set_option maxHeartbeats 4000000 in
theorem w_X6_isSpelled_67 {E : Cx} {l : Launch} {res : Int32 × Hp} {ad : Nat → Nat} {fu : Nat} {o : Nat} {S : Hp} {x4 : Int32} (K : Kx E cX6_isSpelled RX6 (rmd 5 0 0)) (X : Bx E l yX6_isSpelled 6 (some .boolean) 0 0 ad (QI res)) (h : B_X6_isSpelled_67 fu o S x4 = some res) : J E 0 0 67 [(4, vI x4)] [] S ad := by
  refine j_iload K dX6_isSpelled_67 0 rfl ?_
  exact j_zret K X dX6_isSpelled_69 h
def B_X6_isSpelled_59 (k20 : Hp → Int32 → Int32 → Option (Int32 × Hp)) (fu : Nat) (o : Nat) (S : Hp) (x1 : Int32) (x3 : Nat) (x5 : Int32) (s0 : Int32) : Option (Int32 × Hp) :=
  k20 S s0 (x5 + (1 : Int32))
set_option maxRecDepth 100000 in
set_option maxHeartbeats 4000000 in
theorem w_X6_isSpelled_59 {E : Cx} {l : Launch} {res : Int32 × Hp} {ad : Nat → Nat} {k20 : Hp → Int32 → Int32 → Option (Int32 × Hp)} {fu : Nat} {o : Nat} {S : Hp} {x1 : Int32} {x3 : Nat} {x5 : Int32} {s0 : Int32} (K : Kx E cX6_isSpelled RX6 (rmd 5 0 0)) (X : Bx E l yX6_isSpelled 6 (some .boolean) 0 0 ad (QI res)) (hk20 : ∀ (S : Hp) (x4 : Int32) (x5 : Int32), k20 S x4 x5 = some res → J E 0 0 20 [(0, vR (some o)), (1, vI x1), (3, vK x3), (4, vI x4), (5, vI x5)] [] S ad) (h : B_X6_isSpelled_59 k20 fu o S x1 x3 x5 s0 = some res) : J E 0 0 59 [(0, vR (some o)), (1, vI x1), (3, vK x3), (5, vI x5)] [vI s0] S ad := by
  refine j_istore (lv' := [(4, vI s0), (0, vR (some o)), (1, vI x1), (3, vK x3), (5, vI x5)]) K dX6_isSpelled_59 X.2.2.1 (by decide) rfl ?_
  refine j_iinc (q := 4) (v := (x5 + (1 : Int32))) (lv' := [(5, vI (x5 + (1 : Int32))), (4, vI s0), (0, vR (some o)), (1, vI x1), (3, vK x3)]) K dX6_isSpelled_61 rfl rfl X.2.2.1 (by decide) rfl ?_
  refine j_goto K dX6_isSpelled_64 ?_
  exact j_sub [2, 3, 4, 1, 0] rfl (hk20 _ _ _ h)
def L_X6_isSpelled_20 (k20 : Hp → Int32 → Int32 → Option (Int32 × Hp)) (fu : Nat) (o : Nat) (x1 : Int32) (x3 : Nat) (S : Hp) (x4 : Int32) (x5 : Int32) : Option (Int32 × Hp) :=
  if x4 = 0 then
    B_X6_isSpelled_67 fu o S x4
  else
    (sLen x3).bind fun v28 =>
    if v28 ≤ x5 then
      B_X6_isSpelled_67 fu o S x4
    else
      (gR S (some o) 4 0).bind fun v35 =>
      b2 (F_X7_at S v35 (x1 + x5)) fun v42 S42 =>
      (sAt x3 x5).bind fun v48 =>
      if v42 = v48 then
        B_X6_isSpelled_59 k20 fu o S42 x1 x3 x5 (1 : Int32)
      else
        B_X6_isSpelled_59 k20 fu o S42 x1 x3 x5 (0 : Int32)
set_option maxRecDepth 100000 in
set_option maxHeartbeats 4000000 in
theorem wl_X6_isSpelled_20 {E : Cx} {l : Launch} {res : Int32 × Hp} {ad : Nat → Nat} {k20 : Hp → Int32 → Int32 → Option (Int32 × Hp)} {fu : Nat} {o : Nat} {S : Hp} {x1 : Int32} {x3 : Nat} {x4 : Int32} {x5 : Int32} (K : Kx E cX6_isSpelled RX6 (rmd 5 0 0)) (X : Bx E l yX6_isSpelled 6 (some .boolean) 0 0 ad (QI res)) (hk20 : ∀ (S : Hp) (x4 : Int32) (x5 : Int32), k20 S x4 x5 = some res → J E 0 0 20 [(0, vR (some o)), (1, vI x1), (3, vK x3), (4, vI x4), (5, vI x5)] [] S ad) (h : L_X6_isSpelled_20 k20 fu o x1 x3 S x4 x5 = some res) : J E 0 0 20 [(0, vR (some o)), (1, vI x1), (3, vK x3), (4, vI x4), (5, vI x5)] [] S ad := by
  refine j_iload K dX6_isSpelled_20 3 rfl ?_
  refine j_if_eq K dX6_isSpelled_22 (fun c22 => ?_) (fun c22 => ?_)
  · replace h := it c22 h
    exact j_sub [3] rfl (w_X6_isSpelled_67 K X h)
  · replace h := ie c22 h
    refine j_iload K dX6_isSpelled_25 4 rfl ?_
    refine j_aload_nK K dX6_isSpelled_27 rfl 2 rfl ?_
    obtain ⟨v28, e28, h⟩ := bd h
    refine j_cI (st := [vI x5]) K (r_VK (vs := []) (n := 0) (ix := x3) K (c_slen e28) (sLen_lt e28) dX6_isSpelled_28 z269 z164 z165 z6 z166 ⟨zd_J0_length_8abf5, rfl, rfl, rfl, ⟨Nat.le_of_ble_eq_true rfl, Nat.le_of_ble_eq_true rfl⟩, Nat.le_of_ble_eq_true rfl, Nat.le_of_ble_eq_true rfl, Nat.le_of_ble_eq_true rfl⟩) rfl ?_
    refine j_icmp_ge K dX6_isSpelled_31 (fun c31 => ?_) (fun c31 => ?_)
    · replace h := it c31 h
      exact j_sub [3] rfl (w_X6_isSpelled_67 K X h)
    · replace h := ie c31 h
      refine j_aload_n K dX6_isSpelled_34 rfl 0 rfl ?_
      obtain ⟨v35, e35, h⟩ := bd h
      refine fgX6_9 K dX6_isSpelled_35 e35 ?_
      refine j_iload_n K dX6_isSpelled_38 rfl 1 rfl ?_
      refine j_iload K dX6_isSpelled_39 4 rfl ?_
      refine j_iadd K dX6_isSpelled_41 ?_
      obtain ⟨v42, S42, e42, h⟩ := bd2 h
      refine j_cI (st := []) K (r_SN (vs := [vR v35, vI (x1 + x5)]) (n := 2) (host := RX7) K (c_X7_at e42) dX6_isSpelled_42 (List.mem_of_getElem? (i := 4) rfl) z227 z1 z228 ⟨zd_X7_at, rfl, rfl, rfl, ⟨Nat.le_of_ble_eq_true rfl, Nat.le_of_ble_eq_true rfl⟩, Nat.le_of_ble_eq_true rfl, Nat.le_of_ble_eq_true rfl, Nat.le_of_ble_eq_true rfl⟩) rfl ?_
      refine j_aload_nK K dX6_isSpelled_45 rfl 2 rfl ?_
      refine j_iload K dX6_isSpelled_46 4 rfl ?_
      obtain ⟨v48, e48, h⟩ := bd h
      refine j_cI (st := [vI v42]) K (r_VK (vs := [vI x5]) (n := 1) (ix := x3) K (c_sat e48) (sAt_lt e48) dX6_isSpelled_48 z270 z174 z175 z6 z176 ⟨zd_J0_charAt_5068e, rfl, rfl, rfl, ⟨Nat.le_of_ble_eq_true rfl, Nat.le_of_ble_eq_true rfl⟩, Nat.le_of_ble_eq_true rfl, Nat.le_of_ble_eq_true rfl, Nat.le_of_ble_eq_true rfl⟩) rfl ?_
      refine j_icmp_ne K dX6_isSpelled_51 (fun c51 => ?_) (fun c51 => ?_)
      · replace h := ie c51 h
        refine j_iconst (v := (0 : Int32)) K dX6_isSpelled_58 (by decide) ?_
        exact j_sub [0, 1, 2, 4] rfl (w_X6_isSpelled_59 K X hk20 h)
      · replace h := it c51 h
        refine j_iconst (v := (1 : Int32)) K dX6_isSpelled_54 (by decide) ?_
        refine j_goto K dX6_isSpelled_55 ?_
        exact j_sub [0, 1, 2, 4] rfl (w_X6_isSpelled_59 K X hk20 h)
def B_X6_isSpelled_20 (fu : Nat) (o : Nat) (x1 : Int32) (x3 : Nat) : Nat → Hp → Int32 → Int32 → Option (Int32 × Hp)
  | 0 => fun _ _ _ => none
  | n + 1 => L_X6_isSpelled_20 (B_X6_isSpelled_20 fu o x1 x3 n) fu o x1 x3
theorem w_X6_isSpelled_20 {E : Cx} {l : Launch} {res : Int32 × Hp} {ad : Nat → Nat} {fu : Nat} {o : Nat} {x1 : Int32} {x3 : Nat} (K : Kx E cX6_isSpelled RX6 (rmd 5 0 0)) (X : Bx E l yX6_isSpelled 6 (some .boolean) 0 0 ad (QI res)) : ∀ (n : Nat) (S : Hp) (x4 : Int32) (x5 : Int32), B_X6_isSpelled_20 fu o x1 x3 n S x4 x5 = some res → J E 0 0 20 [(0, vR (some o)), (1, vI x1), (3, vK x3), (4, vI x4), (5, vI x5)] [] S ad := by
  intro n
  induction n with
  | zero =>
    intro S x4 x5 h
    cases h
  | succ n ih =>
    intro S x4 x5 h
    exact wl_X6_isSpelled_20 K X ih h
def B_X6_isSpelled_15 (fu : Nat) (o : Nat) (S : Hp) (x1 : Int32) (x3 : Nat) (s0 : Int32) : Option (Int32 × Hp) :=
  B_X6_isSpelled_20 fu o x1 x3 fu S s0 (0 : Int32)
set_option maxRecDepth 100000 in
set_option maxHeartbeats 4000000 in
theorem w_X6_isSpelled_15 {E : Cx} {l : Launch} {res : Int32 × Hp} {ad : Nat → Nat} {fu : Nat} {o : Nat} {S : Hp} {x1 : Int32} {x3 : Nat} {s0 : Int32} (K : Kx E cX6_isSpelled RX6 (rmd 5 0 0)) (X : Bx E l yX6_isSpelled 6 (some .boolean) 0 0 ad (QI res)) (h : B_X6_isSpelled_15 fu o S x1 x3 s0 = some res) : J E 0 0 15 [(0, vR (some o)), (1, vI x1), (3, vK x3)] [vI s0] S ad := by
  refine j_istore (lv' := [(4, vI s0), (0, vR (some o)), (1, vI x1), (3, vK x3)]) K dX6_isSpelled_15 X.2.2.1 (by decide) rfl ?_
  refine j_iconst (v := (0 : Int32)) K dX6_isSpelled_17 (by decide) ?_
  refine j_istore (lv' := [(5, vI (0 : Int32)), (4, vI s0), (0, vR (some o)), (1, vI x1), (3, vK x3)]) K dX6_isSpelled_18 X.2.2.1 (by decide) rfl ?_
  exact j_sub [2, 3, 4, 1, 0] rfl (w_X6_isSpelled_20 K X _ _ _ _ h)
def F_X6_isSpelled (fu : Nat) (S : Hp) (o : Nat) (x1 : Int32) (x2 : Int32) (x3 : Nat) : Option (Int32 × Hp) :=
  (sLen x3).bind fun v4 =>
  if (x2 - x1) = v4 then
    B_X6_isSpelled_15 fu o S x1 x3 (1 : Int32)
  else
    B_X6_isSpelled_15 fu o S x1 x3 (0 : Int32)
set_option maxRecDepth 100000 in
set_option maxHeartbeats 4000000 in
theorem w_X6_isSpelled {E : Cx} {l : Launch} {res : Int32 × Hp} {ad : Nat → Nat} {fu : Nat} {S : Hp} {o : Nat} {x1 : Int32} {x2 : Int32} {x3 : Nat} (K : Kx E cX6_isSpelled RX6 (rmd 5 0 0)) (X : Bx E l yX6_isSpelled 6 (some .boolean) 0 0 ad (QI res)) (h : F_X6_isSpelled fu S o x1 x2 x3 = some res) : J E 0 0 0 [(0, vR (some o)), (1, vI x1), (2, vI x2), (3, vK x3)] [] S ad := by
  refine j_iload_n K dX6_isSpelled_0 rfl 2 rfl ?_
  refine j_iload_n K dX6_isSpelled_1 rfl 1 rfl ?_
  refine j_isub K dX6_isSpelled_2 ?_
  refine j_aload_nK K dX6_isSpelled_3 rfl 3 rfl ?_
  obtain ⟨v4, e4, h⟩ := bd h
  refine j_cI (st := [vI (x2 - x1)]) K (r_VK (vs := []) (n := 0) (ix := x3) K (c_slen e4) (sLen_lt e4) dX6_isSpelled_4 z269 z164 z165 z6 z166 ⟨zd_J0_length_8abf5, rfl, rfl, rfl, ⟨Nat.le_of_ble_eq_true rfl, Nat.le_of_ble_eq_true rfl⟩, Nat.le_of_ble_eq_true rfl, Nat.le_of_ble_eq_true rfl, Nat.le_of_ble_eq_true rfl⟩) rfl ?_
  refine j_icmp_ne K dX6_isSpelled_7 (fun c7 => ?_) (fun c7 => ?_)
  · replace h := ie c7 h
    refine j_iconst (v := (0 : Int32)) K dX6_isSpelled_14 (by decide) ?_
    exact j_sub [0, 1, 3] rfl (w_X6_isSpelled_15 K X h)
  · replace h := it c7 h
    refine j_iconst (v := (1 : Int32)) K dX6_isSpelled_10 (by decide) ?_
    refine j_goto K dX6_isSpelled_11 ?_
    exact j_sub [0, 1, 3] rfl (w_X6_isSpelled_15 K X h)
theorem c_X6_isSpelled {l : Launch} {fu : Nat} {S : Hp} {o : Nat} {x1 : Int32} {x2 : Int32} {x3 : Nat} {res : Int32 × Hp} (h : F_X6_isSpelled fu S o x1 x2 x3 = some res) : Ct l yX6_isSpelled cX6_isSpelled 6 (some .boolean) (rmd 5 0 0) 0 0 [vR (some o), vI x1, vI x2, vK x3] S (QI res) :=
  z_entry (by decide +kernel) (Nat.le_of_ble_eq_true rfl) (fun E ad K X => w_X6_isSpelled K X h)

theorem dX6_kindOfToken_0 : decode cX6_kindOfToken 0 = .ok (.aload_n 0, 1) ∧ 0 + 1 = 1 := ⟨by decide +kernel, rfl⟩
theorem dX6_kindOfToken_1 : decode cX6_kindOfToken 1 = .ok (.getfield 9, 3) ∧ 1 + 3 = 4 := ⟨by decide +kernel, rfl⟩
theorem dX6_kindOfToken_4 : decode cX6_kindOfToken 4 = .ok (.iload_n 1, 1) ∧ 4 + 1 = 5 := ⟨by decide +kernel, rfl⟩
theorem dX6_kindOfToken_5 : decode cX6_kindOfToken 5 = .ok (.invokestatic 32, 3) := by decide +kernel
theorem dX6_kindOfToken_8 : decode cX6_kindOfToken 8 = .ok (.istore_n 3, 1) ∧ 8 + 1 = 9 := ⟨by decide +kernel, rfl⟩
theorem dX6_kindOfToken_9 : decode cX6_kindOfToken 9 = .ok (.iload_n 3, 1) ∧ 9 + 1 = 10 := ⟨by decide +kernel, rfl⟩
theorem dX6_kindOfToken_10 : decode cX6_kindOfToken 10 = .ok (.invokestatic 52, 3) := by decide +kernel
theorem dX6_kindOfToken_13 : decode cX6_kindOfToken 13 = .ok (.ifCond .eq 16, 3) ∧ 13 + 3 = 16 ∧ ((13 : Nat) : Int) + (16) = ((29 : Nat) : Int) := ⟨by decide +kernel, rfl, by decide⟩
theorem dX6_kindOfToken_16 : decode cX6_kindOfToken 16 = .ok (.iload_n 2, 1) ∧ 16 + 1 = 17 := ⟨by decide +kernel, rfl⟩
theorem dX6_kindOfToken_17 : decode cX6_kindOfToken 17 = .ok (.iload_n 1, 1) ∧ 17 + 1 = 18 := ⟨by decide +kernel, rfl⟩
theorem dX6_kindOfToken_18 : decode cX6_kindOfToken 18 = .ok (.isub, 1) ∧ 18 + 1 = 19 := ⟨by decide +kernel, rfl⟩
theorem dX6_kindOfToken_19 : decode cX6_kindOfToken 19 = .ok (.iconst 4, 1) ∧ 19 + 1 = 20 := ⟨by decide +kernel, rfl⟩
theorem dX6_kindOfToken_20 : decode cX6_kindOfToken 20 = .ok (.if_icmp .le 7, 3) ∧ 20 + 3 = 23 ∧ ((20 : Nat) : Int) + (7) = ((27 : Nat) : Int) := ⟨by decide +kernel, rfl, by decide⟩
theorem dX6_kindOfToken_23 : decode cX6_kindOfToken 23 = .ok (.iconst 1, 1) ∧ 23 + 1 = 24 := ⟨by decide +kernel, rfl⟩
theorem dX6_kindOfToken_24 : decode cX6_kindOfToken 24 = .ok (.goto 4, 3) ∧ ((24 : Nat) : Int) + (4) = ((28 : Nat) : Int) := ⟨by decide +kernel, by decide⟩
theorem dX6_kindOfToken_27 : decode cX6_kindOfToken 27 = .ok (.iconst 2, 1) ∧ 27 + 1 = 28 := ⟨by decide +kernel, rfl⟩
theorem dX6_kindOfToken_28 : decode cX6_kindOfToken 28 = .ok (.ireturn, 1) := by decide +kernel
theorem dX6_kindOfToken_29 : decode cX6_kindOfToken 29 = .ok (.iload_n 3, 1) ∧ 29 + 1 = 30 := ⟨by decide +kernel, rfl⟩
theorem dX6_kindOfToken_30 : decode cX6_kindOfToken 30 = .ok (.invokestatic 49, 3) := by decide +kernel
theorem dX6_kindOfToken_33 : decode cX6_kindOfToken 33 = .ok (.ifCond .ne 8, 3) ∧ 33 + 3 = 36 ∧ ((33 : Nat) : Int) + (8) = ((41 : Nat) : Int) := ⟨by decide +kernel, rfl, by decide⟩
theorem dX6_kindOfToken_36 : decode cX6_kindOfToken 36 = .ok (.iload_n 3, 1) ∧ 36 + 1 = 37 := ⟨by decide +kernel, rfl⟩
theorem dX6_kindOfToken_37 : decode cX6_kindOfToken 37 = .ok (.invokestatic 55, 3) := by decide +kernel
theorem dX6_kindOfToken_40 : decode cX6_kindOfToken 40 = .ok (.ireturn, 1) := by decide +kernel
theorem dX6_kindOfToken_41 : decode cX6_kindOfToken 41 = .ok (.bipush 10, 2) ∧ 41 + 2 = 43 := ⟨by decide +kernel, rfl⟩
theorem dX6_kindOfToken_43 : decode cX6_kindOfToken 43 = .ok (.istore 4, 2) ∧ 43 + 2 = 45 := ⟨by decide +kernel, rfl⟩
theorem dX6_kindOfToken_45 : decode cX6_kindOfToken 45 = .ok (.iload 4, 2) ∧ 45 + 2 = 47 := ⟨by decide +kernel, rfl⟩
theorem dX6_kindOfToken_47 : decode cX6_kindOfToken 47 = .ok (.bipush 21, 2) ∧ 47 + 2 = 49 := ⟨by decide +kernel, rfl⟩
theorem dX6_kindOfToken_49 : decode cX6_kindOfToken 49 = .ok (.if_icmp .gt 26, 3) ∧ 49 + 3 = 52 ∧ ((49 : Nat) : Int) + (26) = ((75 : Nat) : Int) := ⟨by decide +kernel, rfl, by decide⟩
theorem dX6_kindOfToken_52 : decode cX6_kindOfToken 52 = .ok (.aload_n 0, 1) ∧ 52 + 1 = 53 := ⟨by decide +kernel, rfl⟩
theorem dX6_kindOfToken_53 : decode cX6_kindOfToken 53 = .ok (.iload_n 1, 1) ∧ 53 + 1 = 54 := ⟨by decide +kernel, rfl⟩
theorem dX6_kindOfToken_54 : decode cX6_kindOfToken 54 = .ok (.iload_n 2, 1) ∧ 54 + 1 = 55 := ⟨by decide +kernel, rfl⟩
theorem dX6_kindOfToken_55 : decode cX6_kindOfToken 55 = .ok (.iload 4, 2) ∧ 55 + 2 = 57 := ⟨by decide +kernel, rfl⟩
theorem dX6_kindOfToken_57 : decode cX6_kindOfToken 57 = .ok (.invokestatic 59, 3) := by decide +kernel
theorem dX6_kindOfToken_60 : decode cX6_kindOfToken 60 = .ok (.invokevirtual 63, 3) := by decide +kernel
theorem dX6_kindOfToken_63 : decode cX6_kindOfToken 63 = .ok (.ifCond .eq 6, 3) ∧ 63 + 3 = 66 ∧ ((63 : Nat) : Int) + (6) = ((69 : Nat) : Int) := ⟨by decide +kernel, rfl, by decide⟩
theorem dX6_kindOfToken_66 : decode cX6_kindOfToken 66 = .ok (.iload 4, 2) ∧ 66 + 2 = 68 := ⟨by decide +kernel, rfl⟩
theorem dX6_kindOfToken_68 : decode cX6_kindOfToken 68 = .ok (.ireturn, 1) := by decide +kernel
theorem dX6_kindOfToken_69 : decode cX6_kindOfToken 69 = .ok (.iinc 4 1, 3) ∧ 69 + 3 = 72 := ⟨by decide +kernel, rfl⟩
theorem dX6_kindOfToken_72 : decode cX6_kindOfToken 72 = .ok (.goto (-27), 3) ∧ ((72 : Nat) : Int) + (-27) = ((45 : Nat) : Int) := ⟨by decide +kernel, by decide⟩
theorem dX6_kindOfToken_75 : decode cX6_kindOfToken 75 = .ok (.iconst 1, 1) ∧ 75 + 1 = 76 := ⟨by decide +kernel, rfl⟩
theorem dX6_kindOfToken_76 : decode cX6_kindOfToken 76 = .ok (.ireturn, 1) := by decide +kernel
def B_X6_kindOfToken_28 (fu : Nat) (o : Nat) (S : Hp) (s0 : Int32) : Option (Int32 × Hp) :=
  some (s0, S)
set_option maxRecDepth 100000 in
set_option maxHeartbeats 4000000 in
theorem w_X6_kindOfToken_28 {E : Cx} {l : Launch} {res : Int32 × Hp} {ad : Nat → Nat} {fu : Nat} {o : Nat} {S : Hp} {s0 : Int32} (K : Kx E cX6_kindOfToken RX6 (rmd 6 0 0)) (X : Bx E l yX6_kindOfToken 5 (some .int) 0 0 ad (QI res)) (h : B_X6_kindOfToken_28 fu o S s0 = some res) : J E 0 0 28 [] [vI s0] S ad := by
  exact j_iret K X dX6_kindOfToken_28 h
def L_X6_kindOfToken_45 (k45 : Hp → Int32 → Option (Int32 × Hp)) (fu : Nat) (o : Nat) (x1 : Int32) (x2 : Int32) (S : Hp) (x4 : Int32) : Option (Int32 × Hp) :=
  if (21 : Int32) < x4 then
    some ((1 : Int32), S)
  else
    b2 (F_X5_spelling S x4) fun v57 S57 =>
    (ob S57 4 (some o)).bind fun _ =>
    b2 (F_X6_isSpelled fu S57 o x1 x2 v57) fun v60 S60 =>
    if v60 = 0 then
      k45 S60 (x4 + (1 : Int32))
    else
      some (x4, S60)
set_option maxRecDepth 100000 in
set_option maxHeartbeats 4000000 in
theorem wl_X6_kindOfToken_45 {E : Cx} {l : Launch} {res : Int32 × Hp} {ad : Nat → Nat} {k45 : Hp → Int32 → Option (Int32 × Hp)} {fu : Nat} {o : Nat} {S : Hp} {x1 : Int32} {x2 : Int32} {x4 : Int32} (K : Kx E cX6_kindOfToken RX6 (rmd 6 0 0)) (X : Bx E l yX6_kindOfToken 5 (some .int) 0 0 ad (QI res)) (hk45 : ∀ (S : Hp) (x4 : Int32), k45 S x4 = some res → J E 0 0 45 [(0, vR (some o)), (1, vI x1), (2, vI x2), (4, vI x4)] [] S ad) (h : L_X6_kindOfToken_45 k45 fu o x1 x2 S x4 = some res) : J E 0 0 45 [(0, vR (some o)), (1, vI x1), (2, vI x2), (4, vI x4)] [] S ad := by
  refine j_iload K dX6_kindOfToken_45 3 rfl ?_
  refine j_bipush (v := (21 : Int32)) K dX6_kindOfToken_47 (by decide) ?_
  refine j_icmp_gt K dX6_kindOfToken_49 (fun c49 => ?_) (fun c49 => ?_)
  · replace h := it c49 h
    refine j_iconst (v := (1 : Int32)) K dX6_kindOfToken_75 (by decide) ?_
    exact j_iret K X dX6_kindOfToken_76 h
  · replace h := ie c49 h
    refine j_aload_n K dX6_kindOfToken_52 rfl 0 rfl ?_
    refine j_iload_n K dX6_kindOfToken_53 rfl 1 rfl ?_
    refine j_iload_n K dX6_kindOfToken_54 rfl 2 rfl ?_
    refine j_iload K dX6_kindOfToken_55 3 rfl ?_
    obtain ⟨v57, S57, e57, h⟩ := bd2 h
    refine j_cK (st := [vI x2, vI x1, vR (some o)]) K (r_S (vs := [vI x4]) (n := 1) K (c_X5_spelling e57) dX6_kindOfToken_57 z249 z250 z10 z251 ⟨zd_X5_spelling, rfl, rfl, rfl, ⟨Nat.le_of_ble_eq_true rfl, Nat.le_of_ble_eq_true rfl⟩, Nat.le_of_ble_eq_true rfl, Nat.le_of_ble_eq_true rfl, Nat.le_of_ble_eq_true rfl⟩) rfl ?_
    obtain ⟨w60, ew60, h⟩ := bd h
    have ho60 := obS ew60
    obtain ⟨v60, S60, e60, h⟩ := bd2 h
    refine j_cI (st := []) K (r_V (vs := [vI x1, vI x2, vK v57]) (n := 3) (o := o) K (c_X6_isSpelled e60) ho60 (by decide) rfl dX6_kindOfToken_60 z265 z267 zs2 z3 z268 ⟨zd_X6_isSpelled, rfl, rfl, rfl, ⟨Nat.le_of_ble_eq_true rfl, Nat.le_of_ble_eq_true rfl⟩, Nat.le_of_ble_eq_true rfl, Nat.le_of_ble_eq_true rfl, Nat.le_of_ble_eq_true rfl⟩) rfl ?_
    refine j_if_eq K dX6_kindOfToken_63 (fun c63 => ?_) (fun c63 => ?_)
    · replace h := it c63 h
      refine j_iinc (q := 3) (v := (x4 + (1 : Int32))) (lv' := [(4, vI (x4 + (1 : Int32))), (0, vR (some o)), (1, vI x1), (2, vI x2)]) K dX6_kindOfToken_69 rfl rfl X.2.2.1 (by decide) rfl ?_
      refine j_goto K dX6_kindOfToken_72 ?_
      exact j_sub [1, 2, 3, 0] rfl (hk45 _ _ h)
    · replace h := ie c63 h
      refine j_iload K dX6_kindOfToken_66 3 rfl ?_
      exact j_iret K X dX6_kindOfToken_68 h
def B_X6_kindOfToken_45 (fu : Nat) (o : Nat) (x1 : Int32) (x2 : Int32) : Nat → Hp → Int32 → Option (Int32 × Hp)
  | 0 => fun _ _ => none
  | n + 1 => L_X6_kindOfToken_45 (B_X6_kindOfToken_45 fu o x1 x2 n) fu o x1 x2
theorem w_X6_kindOfToken_45 {E : Cx} {l : Launch} {res : Int32 × Hp} {ad : Nat → Nat} {fu : Nat} {o : Nat} {x1 : Int32} {x2 : Int32} (K : Kx E cX6_kindOfToken RX6 (rmd 6 0 0)) (X : Bx E l yX6_kindOfToken 5 (some .int) 0 0 ad (QI res)) : ∀ (n : Nat) (S : Hp) (x4 : Int32), B_X6_kindOfToken_45 fu o x1 x2 n S x4 = some res → J E 0 0 45 [(0, vR (some o)), (1, vI x1), (2, vI x2), (4, vI x4)] [] S ad := by
  intro n
  induction n with
  | zero =>
    intro S x4 h
    cases h
  | succ n ih =>
    intro S x4 h
    exact wl_X6_kindOfToken_45 K X ih h
def F_X6_kindOfToken (fu : Nat) (S : Hp) (o : Nat) (x1 : Int32) (x2 : Int32) : Option (Int32 × Hp) :=
  (gR S (some o) 4 0).bind fun v1 =>
  b2 (F_X7_at S v1 x1) fun v5 S5 =>
  b2 (F_X6_isDigit S5 v5) fun v10 S10 =>
  if v10 = 0 then
    b2 (F_X6_isLetter S10 v5) fun v30 S30 =>
    if v30 = 0 then
      b2 (F_X5_ofByte S30 v5) fun v37 S37 =>
      some (v37, S37)
    else
      B_X6_kindOfToken_45 fu o x1 x2 fu S30 (10 : Int32)
  else
    if (x2 - x1) ≤ (4 : Int32) then
      B_X6_kindOfToken_28 fu o S10 (2 : Int32)
    else
      B_X6_kindOfToken_28 fu o S10 (1 : Int32)
set_option maxRecDepth 100000 in
set_option maxHeartbeats 4000000 in
theorem w_X6_kindOfToken {E : Cx} {l : Launch} {res : Int32 × Hp} {ad : Nat → Nat} {fu : Nat} {S : Hp} {o : Nat} {x1 : Int32} {x2 : Int32} (K : Kx E cX6_kindOfToken RX6 (rmd 6 0 0)) (X : Bx E l yX6_kindOfToken 5 (some .int) 0 0 ad (QI res)) (h : F_X6_kindOfToken fu S o x1 x2 = some res) : J E 0 0 0 [(0, vR (some o)), (1, vI x1), (2, vI x2)] [] S ad := by
  refine j_aload_n K dX6_kindOfToken_0 rfl 0 rfl ?_
  obtain ⟨v1, e1, h⟩ := bd h
  refine fgX6_9 K dX6_kindOfToken_1 e1 ?_
  refine j_iload_n K dX6_kindOfToken_4 rfl 1 rfl ?_
  obtain ⟨v5, S5, e5, h⟩ := bd2 h
  refine j_cI (st := []) K (r_SN (vs := [vR v1, vI x1]) (n := 2) (host := RX7) K (c_X7_at e5) dX6_kindOfToken_5 (List.mem_of_getElem? (i := 4) rfl) z227 z1 z228 ⟨zd_X7_at, rfl, rfl, rfl, ⟨Nat.le_of_ble_eq_true rfl, Nat.le_of_ble_eq_true rfl⟩, Nat.le_of_ble_eq_true rfl, Nat.le_of_ble_eq_true rfl, Nat.le_of_ble_eq_true rfl⟩) rfl ?_
  refine j_istore_n (lv' := [(3, vI v5), (0, vR (some o)), (1, vI x1), (2, vI x2)]) K dX6_kindOfToken_8 rfl X.2.2.1 (by decide) rfl ?_
  refine j_iload_n K dX6_kindOfToken_9 rfl 0 rfl ?_
  obtain ⟨v10, S10, e10, h⟩ := bd2 h
  refine j_cI (st := []) K (r_S (vs := [vI v5]) (n := 1) K (c_X6_isDigit e10) dX6_kindOfToken_10 z239 z240 z3 z241 ⟨zd_X6_isDigit, rfl, rfl, rfl, ⟨Nat.le_of_ble_eq_true rfl, Nat.le_of_ble_eq_true rfl⟩, Nat.le_of_ble_eq_true rfl, Nat.le_of_ble_eq_true rfl, Nat.le_of_ble_eq_true rfl⟩) rfl ?_
  refine j_if_eq K dX6_kindOfToken_13 (fun c13 => ?_) (fun c13 => ?_)
  · replace h := it c13 h
    refine j_iload_n K dX6_kindOfToken_29 rfl 0 rfl ?_
    obtain ⟨v30, S30, e30, h⟩ := bd2 h
    refine j_cI (st := []) K (r_S (vs := [vI v5]) (n := 1) K (c_X6_isLetter e30) dX6_kindOfToken_30 z236 z237 z3 z238 ⟨zd_X6_isLetter, rfl, rfl, rfl, ⟨Nat.le_of_ble_eq_true rfl, Nat.le_of_ble_eq_true rfl⟩, Nat.le_of_ble_eq_true rfl, Nat.le_of_ble_eq_true rfl, Nat.le_of_ble_eq_true rfl⟩) rfl ?_
    refine j_if_ne K dX6_kindOfToken_33 (fun c33 => ?_) (fun c33 => ?_)
    · replace h := ie c33 h
      refine j_bipush (v := (10 : Int32)) K dX6_kindOfToken_41 (by decide) ?_
      refine j_istore (lv' := [(4, vI (10 : Int32)), (3, vI v5), (0, vR (some o)), (1, vI x1), (2, vI x2)]) K dX6_kindOfToken_43 X.2.2.1 (by decide) rfl ?_
      exact j_sub [2, 3, 4, 0] rfl (w_X6_kindOfToken_45 K X _ _ _ h)
    · replace h := it c33 h
      refine j_iload_n K dX6_kindOfToken_36 rfl 0 rfl ?_
      obtain ⟨v37, S37, e37, h⟩ := bd2 h
      refine j_cI (st := []) K (r_S (vs := [vI v5]) (n := 1) K (c_X5_ofByte e37) dX6_kindOfToken_37 z246 z247 z10 z248 ⟨zd_X5_ofByte, rfl, rfl, rfl, ⟨Nat.le_of_ble_eq_true rfl, Nat.le_of_ble_eq_true rfl⟩, Nat.le_of_ble_eq_true rfl, Nat.le_of_ble_eq_true rfl, Nat.le_of_ble_eq_true rfl⟩) rfl ?_
      exact j_iret K X dX6_kindOfToken_40 h
  · replace h := ie c13 h
    refine j_iload_n K dX6_kindOfToken_16 rfl 3 rfl ?_
    refine j_iload_n K dX6_kindOfToken_17 rfl 2 rfl ?_
    refine j_isub K dX6_kindOfToken_18 ?_
    refine j_iconst (v := (4 : Int32)) K dX6_kindOfToken_19 (by decide) ?_
    refine j_icmp_le K dX6_kindOfToken_20 (fun c20 => ?_) (fun c20 => ?_)
    · replace h := it c20 h
      refine j_iconst (v := (2 : Int32)) K dX6_kindOfToken_27 (by decide) ?_
      exact j_sub [] rfl (w_X6_kindOfToken_28 K X h)
    · replace h := ie c20 h
      refine j_iconst (v := (1 : Int32)) K dX6_kindOfToken_23 (by decide) ?_
      refine j_goto K dX6_kindOfToken_24 ?_
      exact j_sub [] rfl (w_X6_kindOfToken_28 K X h)
theorem c_X6_kindOfToken {l : Launch} {fu : Nat} {S : Hp} {o : Nat} {x1 : Int32} {x2 : Int32} {res : Int32 × Hp} (h : F_X6_kindOfToken fu S o x1 x2 = some res) : Ct l yX6_kindOfToken cX6_kindOfToken 5 (some .int) (rmd 6 0 0) 0 0 [vR (some o), vI x1, vI x2] S (QI res) :=
  z_entry (by decide +kernel) (Nat.le_of_ble_eq_true rfl) (fun E ad K X => w_X6_kindOfToken K X h)

theorem dX6_split_0 : decode cX6_split 0 = .ok (.iconst 0, 1) ∧ 0 + 1 = 1 := ⟨by decide +kernel, rfl⟩
theorem dX6_split_1 : decode cX6_split 1 = .ok (.istore_n 1, 1) ∧ 1 + 1 = 2 := ⟨by decide +kernel, rfl⟩
theorem dX6_split_2 : decode cX6_split 2 = .ok (.iconst 0, 1) ∧ 2 + 1 = 3 := ⟨by decide +kernel, rfl⟩
theorem dX6_split_3 : decode cX6_split 3 = .ok (.istore_n 2, 1) ∧ 3 + 1 = 4 := ⟨by decide +kernel, rfl⟩
theorem dX6_split_4 : decode cX6_split 4 = .ok (.iload_n 2, 1) ∧ 4 + 1 = 5 := ⟨by decide +kernel, rfl⟩
theorem dX6_split_5 : decode cX6_split 5 = .ok (.aload_n 0, 1) ∧ 5 + 1 = 6 := ⟨by decide +kernel, rfl⟩
theorem dX6_split_6 : decode cX6_split 6 = .ok (.getfield 15, 3) ∧ 6 + 3 = 9 := ⟨by decide +kernel, rfl⟩
theorem dX6_split_9 : decode cX6_split 9 = .ok (.if_icmp .ge 62, 3) ∧ 9 + 3 = 12 ∧ ((9 : Nat) : Int) + (62) = ((71 : Nat) : Int) := ⟨by decide +kernel, rfl, by decide⟩
theorem dX6_split_12 : decode cX6_split 12 = .ok (.aload_n 0, 1) ∧ 12 + 1 = 13 := ⟨by decide +kernel, rfl⟩
theorem dX6_split_13 : decode cX6_split 13 = .ok (.getfield 9, 3) ∧ 13 + 3 = 16 := ⟨by decide +kernel, rfl⟩
theorem dX6_split_16 : decode cX6_split 16 = .ok (.iload_n 2, 1) ∧ 16 + 1 = 17 := ⟨by decide +kernel, rfl⟩
theorem dX6_split_17 : decode cX6_split 17 = .ok (.invokestatic 32, 3) := by decide +kernel
theorem dX6_split_20 : decode cX6_split 20 = .ok (.invokestatic 36, 3) := by decide +kernel
theorem dX6_split_23 : decode cX6_split 23 = .ok (.istore_n 3, 1) ∧ 23 + 1 = 24 := ⟨by decide +kernel, rfl⟩
theorem dX6_split_24 : decode cX6_split 24 = .ok (.iload_n 3, 1) ∧ 24 + 1 = 25 := ⟨by decide +kernel, rfl⟩
theorem dX6_split_25 : decode cX6_split 25 = .ok (.ifCond .ne 23, 3) ∧ 25 + 3 = 28 ∧ ((25 : Nat) : Int) + (23) = ((48 : Nat) : Int) := ⟨by decide +kernel, rfl, by decide⟩
theorem dX6_split_28 : decode cX6_split 28 = .ok (.aload_n 0, 1) ∧ 28 + 1 = 29 := ⟨by decide +kernel, rfl⟩
theorem dX6_split_29 : decode cX6_split 29 = .ok (.iload_n 2, 1) ∧ 29 + 1 = 30 := ⟨by decide +kernel, rfl⟩
theorem dX6_split_30 : decode cX6_split 30 = .ok (.invokevirtual 40, 3) := by decide +kernel
theorem dX6_split_33 : decode cX6_split 33 = .ok (.ifCond .ne 15, 3) ∧ 33 + 3 = 36 ∧ ((33 : Nat) : Int) + (15) = ((48 : Nat) : Int) := ⟨by decide +kernel, rfl, by decide⟩
theorem dX6_split_36 : decode cX6_split 36 = .ok (.aload_n 0, 1) ∧ 36 + 1 = 37 := ⟨by decide +kernel, rfl⟩
theorem dX6_split_37 : decode cX6_split 37 = .ok (.getfield 22, 3) ∧ 37 + 3 = 40 := ⟨by decide +kernel, rfl⟩
theorem dX6_split_40 : decode cX6_split 40 = .ok (.iload_n 1, 1) ∧ 40 + 1 = 41 := ⟨by decide +kernel, rfl⟩
theorem dX6_split_41 : decode cX6_split 41 = .ok (.iload_n 2, 1) ∧ 41 + 1 = 42 := ⟨by decide +kernel, rfl⟩
theorem dX6_split_42 : decode cX6_split 42 = .ok (.invokestatic 28, 3) := by decide +kernel
theorem dX6_split_45 : decode cX6_split 45 = .ok (.iinc 1 1, 3) ∧ 45 + 3 = 48 := ⟨by decide +kernel, rfl⟩
theorem dX6_split_48 : decode cX6_split 48 = .ok (.iload_n 3, 1) ∧ 48 + 1 = 49 := ⟨by decide +kernel, rfl⟩
theorem dX6_split_49 : decode cX6_split 49 = .ok (.ifCond .ne 16, 3) ∧ 49 + 3 = 52 ∧ ((49 : Nat) : Int) + (16) = ((65 : Nat) : Int) := ⟨by decide +kernel, rfl, by decide⟩
theorem dX6_split_52 : decode cX6_split 52 = .ok (.aload_n 0, 1) ∧ 52 + 1 = 53 := ⟨by decide +kernel, rfl⟩
theorem dX6_split_53 : decode cX6_split 53 = .ok (.getfield 25, 3) ∧ 53 + 3 = 56 := ⟨by decide +kernel, rfl⟩
theorem dX6_split_56 : decode cX6_split 56 = .ok (.iload_n 1, 1) ∧ 56 + 1 = 57 := ⟨by decide +kernel, rfl⟩
theorem dX6_split_57 : decode cX6_split 57 = .ok (.iconst 1, 1) ∧ 57 + 1 = 58 := ⟨by decide +kernel, rfl⟩
theorem dX6_split_58 : decode cX6_split 58 = .ok (.isub, 1) ∧ 58 + 1 = 59 := ⟨by decide +kernel, rfl⟩
theorem dX6_split_59 : decode cX6_split 59 = .ok (.iload_n 2, 1) ∧ 59 + 1 = 60 := ⟨by decide +kernel, rfl⟩
theorem dX6_split_60 : decode cX6_split 60 = .ok (.iconst 1, 1) ∧ 60 + 1 = 61 := ⟨by decide +kernel, rfl⟩
theorem dX6_split_61 : decode cX6_split 61 = .ok (.iadd, 1) ∧ 61 + 1 = 62 := ⟨by decide +kernel, rfl⟩
theorem dX6_split_62 : decode cX6_split 62 = .ok (.invokestatic 28, 3) := by decide +kernel
theorem dX6_split_65 : decode cX6_split 65 = .ok (.iinc 2 1, 3) ∧ 65 + 3 = 68 := ⟨by decide +kernel, rfl⟩
theorem dX6_split_68 : decode cX6_split 68 = .ok (.goto (-64), 3) ∧ ((68 : Nat) : Int) + (-64) = ((4 : Nat) : Int) := ⟨by decide +kernel, by decide⟩
theorem dX6_split_71 : decode cX6_split 71 = .ok (.iconst 0, 1) ∧ 71 + 1 = 72 := ⟨by decide +kernel, rfl⟩
theorem dX6_split_72 : decode cX6_split 72 = .ok (.istore_n 2, 1) ∧ 72 + 1 = 73 := ⟨by decide +kernel, rfl⟩
theorem dX6_split_73 : decode cX6_split 73 = .ok (.iload_n 2, 1) ∧ 73 + 1 = 74 := ⟨by decide +kernel, rfl⟩
theorem dX6_split_74 : decode cX6_split 74 = .ok (.iload_n 1, 1) ∧ 74 + 1 = 75 := ⟨by decide +kernel, rfl⟩
theorem dX6_split_75 : decode cX6_split 75 = .ok (.if_icmp .ge 37, 3) ∧ 75 + 3 = 78 ∧ ((75 : Nat) : Int) + (37) = ((112 : Nat) : Int) := ⟨by decide +kernel, rfl, by decide⟩
theorem dX6_split_78 : decode cX6_split 78 = .ok (.aload_n 0, 1) ∧ 78 + 1 = 79 := ⟨by decide +kernel, rfl⟩
theorem dX6_split_79 : decode cX6_split 79 = .ok (.getfield 19, 3) ∧ 79 + 3 = 82 := ⟨by decide +kernel, rfl⟩
theorem dX6_split_82 : decode cX6_split 82 = .ok (.iload_n 2, 1) ∧ 82 + 1 = 83 := ⟨by decide +kernel, rfl⟩
theorem dX6_split_83 : decode cX6_split 83 = .ok (.aload_n 0, 1) ∧ 83 + 1 = 84 := ⟨by decide +kernel, rfl⟩
theorem dX6_split_84 : decode cX6_split 84 = .ok (.aload_n 0, 1) ∧ 84 + 1 = 85 := ⟨by decide +kernel, rfl⟩
theorem dX6_split_85 : decode cX6_split 85 = .ok (.getfield 22, 3) ∧ 85 + 3 = 88 := ⟨by decide +kernel, rfl⟩
theorem dX6_split_88 : decode cX6_split 88 = .ok (.iload_n 2, 1) ∧ 88 + 1 = 89 := ⟨by decide +kernel, rfl⟩
theorem dX6_split_89 : decode cX6_split 89 = .ok (.invokestatic 32, 3) := by decide +kernel
theorem dX6_split_92 : decode cX6_split 92 = .ok (.aload_n 0, 1) ∧ 92 + 1 = 93 := ⟨by decide +kernel, rfl⟩
theorem dX6_split_93 : decode cX6_split 93 = .ok (.getfield 25, 3) ∧ 93 + 3 = 96 := ⟨by decide +kernel, rfl⟩
theorem dX6_split_96 : decode cX6_split 96 = .ok (.iload_n 2, 1) ∧ 96 + 1 = 97 := ⟨by decide +kernel, rfl⟩
theorem dX6_split_97 : decode cX6_split 97 = .ok (.invokestatic 32, 3) := by decide +kernel
theorem dX6_split_100 : decode cX6_split 100 = .ok (.invokevirtual 43, 3) := by decide +kernel
theorem dX6_split_103 : decode cX6_split 103 = .ok (.invokestatic 28, 3) := by decide +kernel
theorem dX6_split_106 : decode cX6_split 106 = .ok (.iinc 2 1, 3) ∧ 106 + 3 = 109 := ⟨by decide +kernel, rfl⟩
theorem dX6_split_109 : decode cX6_split 109 = .ok (.goto (-36), 3) ∧ ((109 : Nat) : Int) + (-36) = ((73 : Nat) : Int) := ⟨by decide +kernel, by decide⟩
theorem dX6_split_112 : decode cX6_split 112 = .ok (.aload_n 0, 1) ∧ 112 + 1 = 113 := ⟨by decide +kernel, rfl⟩
theorem dX6_split_113 : decode cX6_split 113 = .ok (.getfield 19, 3) ∧ 113 + 3 = 116 := ⟨by decide +kernel, rfl⟩
theorem dX6_split_116 : decode cX6_split 116 = .ok (.iload_n 1, 1) ∧ 116 + 1 = 117 := ⟨by decide +kernel, rfl⟩
theorem dX6_split_117 : decode cX6_split 117 = .ok (.iconst 0, 1) ∧ 117 + 1 = 118 := ⟨by decide +kernel, rfl⟩
theorem dX6_split_118 : decode cX6_split 118 = .ok (.invokestatic 28, 3) := by decide +kernel
theorem dX6_split_121 : decode cX6_split 121 = .ok (.aload_n 0, 1) ∧ 121 + 1 = 122 := ⟨by decide +kernel, rfl⟩
theorem dX6_split_122 : decode cX6_split 122 = .ok (.getfield 22, 3) ∧ 122 + 3 = 125 := ⟨by decide +kernel, rfl⟩
theorem dX6_split_125 : decode cX6_split 125 = .ok (.iload_n 1, 1) ∧ 125 + 1 = 126 := ⟨by decide +kernel, rfl⟩
theorem dX6_split_126 : decode cX6_split 126 = .ok (.aload_n 0, 1) ∧ 126 + 1 = 127 := ⟨by decide +kernel, rfl⟩
theorem dX6_split_127 : decode cX6_split 127 = .ok (.getfield 15, 3) ∧ 127 + 3 = 130 := ⟨by decide +kernel, rfl⟩
theorem dX6_split_130 : decode cX6_split 130 = .ok (.invokestatic 28, 3) := by decide +kernel
theorem dX6_split_133 : decode cX6_split 133 = .ok (.return_, 1) := by decide +kernel
def B_X6_split_65 (k4 : Hp → Int32 → Int32 → Option (Hp)) (fu : Nat) (o : Nat) (S : Hp) (x1 : Int32) (x2 : Int32) : Option (Hp) :=
  k4 S x1 (x2 + (1 : Int32))
set_option maxRecDepth 100000 in
set_option maxHeartbeats 4000000 in
theorem w_X6_split_65 {E : Cx} {l : Launch} {res : Hp} {ad : Nat → Nat} {k4 : Hp → Int32 → Int32 → Option (Hp)} {fu : Nat} {o : Nat} {S : Hp} {x1 : Int32} {x2 : Int32} (K : Kx E cX6_split RX6 (rmd 7 0 0)) (X : Bx E l yX6_split 4 none 0 0 ad (QV res)) (hk4 : ∀ (S : Hp) (x1 : Int32) (x2 : Int32), k4 S x1 x2 = some res → J E 0 0 4 [(0, vR (some o)), (1, vI x1), (2, vI x2)] [] S ad) (h : B_X6_split_65 k4 fu o S x1 x2 = some res) : J E 0 0 65 [(0, vR (some o)), (1, vI x1), (2, vI x2)] [] S ad := by
  refine j_iinc (q := 2) (v := (x2 + (1 : Int32))) (lv' := [(2, vI (x2 + (1 : Int32))), (0, vR (some o)), (1, vI x1)]) K dX6_split_65 rfl rfl X.2.2.1 (by decide) rfl ?_
  refine j_goto K dX6_split_68 ?_
  exact j_sub [1, 2, 0] rfl (hk4 _ _ _ h)
def B_X6_split_48 (k4 : Hp → Int32 → Int32 → Option (Hp)) (fu : Nat) (o : Nat) (S : Hp) (x1 : Int32) (x2 : Int32) (x3 : Int32) : Option (Hp) :=
  if x3 = 0 then
    (gR S (some o) 4 4).bind fun v53 =>
    (F_X7_store S v53 (x1 - (1 : Int32)) (x2 + (1 : Int32))).bind fun S62 =>
    B_X6_split_65 k4 fu o S62 x1 x2
  else
    B_X6_split_65 k4 fu o S x1 x2
set_option maxRecDepth 100000 in
set_option maxHeartbeats 4000000 in
theorem w_X6_split_48 {E : Cx} {l : Launch} {res : Hp} {ad : Nat → Nat} {k4 : Hp → Int32 → Int32 → Option (Hp)} {fu : Nat} {o : Nat} {S : Hp} {x1 : Int32} {x2 : Int32} {x3 : Int32} (K : Kx E cX6_split RX6 (rmd 7 0 0)) (X : Bx E l yX6_split 4 none 0 0 ad (QV res)) (hk4 : ∀ (S : Hp) (x1 : Int32) (x2 : Int32), k4 S x1 x2 = some res → J E 0 0 4 [(0, vR (some o)), (1, vI x1), (2, vI x2)] [] S ad) (h : B_X6_split_48 k4 fu o S x1 x2 x3 = some res) : J E 0 0 48 [(0, vR (some o)), (1, vI x1), (2, vI x2), (3, vI x3)] [] S ad := by
  refine j_iload_n K dX6_split_48 rfl 3 rfl ?_
  refine j_if_ne K dX6_split_49 (fun c49 => ?_) (fun c49 => ?_)
  · replace h := ie c49 h
    exact j_sub [0, 1, 2] rfl (w_X6_split_65 K X hk4 h)
  · replace h := it c49 h
    refine j_aload_n K dX6_split_52 rfl 0 rfl ?_
    obtain ⟨v53, e53, h⟩ := bd h
    refine fgX6_25 K dX6_split_53 e53 ?_
    refine j_iload_n K dX6_split_56 rfl 1 rfl ?_
    refine j_iconst (v := (1 : Int32)) K dX6_split_57 (by decide) ?_
    refine j_isub K dX6_split_58 ?_
    refine j_iload_n K dX6_split_59 rfl 2 rfl ?_
    refine j_iconst (v := (1 : Int32)) K dX6_split_60 (by decide) ?_
    refine j_iadd K dX6_split_61 ?_
    obtain ⟨S62, e62, h⟩ := bd h
    refine j_cV (st := []) K (r_SN (vs := [vR v53, vI (x1 - (1 : Int32)), vI (x2 + (1 : Int32))]) (n := 3) (host := RX7) K (c_X7_store e62) dX6_split_62 (List.mem_of_getElem? (i := 3) rfl) z216 z1 z217 ⟨zd_X7_store, rfl, rfl, rfl, ⟨Nat.le_of_ble_eq_true rfl, Nat.le_of_ble_eq_true rfl⟩, Nat.le_of_ble_eq_true rfl, Nat.le_of_ble_eq_true rfl, Nat.le_of_ble_eq_true rfl⟩) rfl ?_
    exact j_sub [0, 1, 2] rfl (w_X6_split_65 K X hk4 h)
def L_X6_split_73 (k73 : Hp → Int32 → Option (Hp)) (fu : Nat) (o : Nat) (x1 : Int32) (S : Hp) (x2 : Int32) : Option (Hp) :=
  if x1 ≤ x2 then
    (gR S (some o) 4 2).bind fun v113 =>
    (F_X7_store S v113 x1 (0 : Int32)).bind fun S118 =>
    (gR S118 (some o) 4 3).bind fun v122 =>
    (gI S118 (some o) 4 1).bind fun v127 =>
    (F_X7_store S118 v122 x1 v127).bind fun S130 =>
    some S130
  else
    (gR S (some o) 4 2).bind fun v79 =>
    (gR S (some o) 4 3).bind fun v85 =>
    b2 (F_X7_at S v85 x2) fun v89 S89 =>
    (gR S89 (some o) 4 4).bind fun v93 =>
    b2 (F_X7_at S89 v93 x2) fun v97 S97 =>
    (ob S97 4 (some o)).bind fun _ =>
    b2 (F_X6_kindOfToken fu S97 o v89 v97) fun v100 S100 =>
    (F_X7_store S100 v79 x2 v100).bind fun S103 =>
    k73 S103 (x2 + (1 : Int32))
set_option maxRecDepth 100000 in
set_option maxHeartbeats 4000000 in
theorem wl_X6_split_73 {E : Cx} {l : Launch} {res : Hp} {ad : Nat → Nat} {k73 : Hp → Int32 → Option (Hp)} {fu : Nat} {o : Nat} {S : Hp} {x1 : Int32} {x2 : Int32} (K : Kx E cX6_split RX6 (rmd 7 0 0)) (X : Bx E l yX6_split 4 none 0 0 ad (QV res)) (hk73 : ∀ (S : Hp) (x2 : Int32), k73 S x2 = some res → J E 0 0 73 [(0, vR (some o)), (1, vI x1), (2, vI x2)] [] S ad) (h : L_X6_split_73 k73 fu o x1 S x2 = some res) : J E 0 0 73 [(0, vR (some o)), (1, vI x1), (2, vI x2)] [] S ad := by
  refine j_iload_n K dX6_split_73 rfl 2 rfl ?_
  refine j_iload_n K dX6_split_74 rfl 1 rfl ?_
  refine j_icmp_ge K dX6_split_75 (fun c75 => ?_) (fun c75 => ?_)
  · replace h := it c75 h
    refine j_aload_n K dX6_split_112 rfl 0 rfl ?_
    obtain ⟨v113, e113, h⟩ := bd h
    refine fgX6_19 K dX6_split_113 e113 ?_
    refine j_iload_n K dX6_split_116 rfl 1 rfl ?_
    refine j_iconst (v := (0 : Int32)) K dX6_split_117 (by decide) ?_
    obtain ⟨S118, e118, h⟩ := bd h
    refine j_cV (st := []) K (r_SN (vs := [vR v113, vI x1, vI (0 : Int32)]) (n := 3) (host := RX7) K (c_X7_store e118) dX6_split_118 (List.mem_of_getElem? (i := 3) rfl) z216 z1 z217 ⟨zd_X7_store, rfl, rfl, rfl, ⟨Nat.le_of_ble_eq_true rfl, Nat.le_of_ble_eq_true rfl⟩, Nat.le_of_ble_eq_true rfl, Nat.le_of_ble_eq_true rfl, Nat.le_of_ble_eq_true rfl⟩) rfl ?_
    refine j_aload_n K dX6_split_121 rfl 0 rfl ?_
    obtain ⟨v122, e122, h⟩ := bd h
    refine fgX6_22 K dX6_split_122 e122 ?_
    refine j_iload_n K dX6_split_125 rfl 1 rfl ?_
    refine j_aload_n K dX6_split_126 rfl 0 rfl ?_
    obtain ⟨v127, e127, h⟩ := bd h
    refine fgX6_15 K dX6_split_127 e127 ?_
    obtain ⟨S130, e130, h⟩ := bd h
    refine j_cV (st := []) K (r_SN (vs := [vR v122, vI x1, vI v127]) (n := 3) (host := RX7) K (c_X7_store e130) dX6_split_130 (List.mem_of_getElem? (i := 3) rfl) z216 z1 z217 ⟨zd_X7_store, rfl, rfl, rfl, ⟨Nat.le_of_ble_eq_true rfl, Nat.le_of_ble_eq_true rfl⟩, Nat.le_of_ble_eq_true rfl, Nat.le_of_ble_eq_true rfl, Nat.le_of_ble_eq_true rfl⟩) rfl ?_
    exact j_vret K X dX6_split_133 h
  · replace h := ie c75 h
    refine j_aload_n K dX6_split_78 rfl 0 rfl ?_
    obtain ⟨v79, e79, h⟩ := bd h
    refine fgX6_19 K dX6_split_79 e79 ?_
    refine j_iload_n K dX6_split_82 rfl 2 rfl ?_
    refine j_aload_n K dX6_split_83 rfl 0 rfl ?_
    refine j_aload_n K dX6_split_84 rfl 0 rfl ?_
    obtain ⟨v85, e85, h⟩ := bd h
    refine fgX6_22 K dX6_split_85 e85 ?_
    refine j_iload_n K dX6_split_88 rfl 2 rfl ?_
    obtain ⟨v89, S89, e89, h⟩ := bd2 h
    refine j_cI (st := [vR (some o), vI x2, vR v79]) K (r_SN (vs := [vR v85, vI x2]) (n := 2) (host := RX7) K (c_X7_at e89) dX6_split_89 (List.mem_of_getElem? (i := 4) rfl) z227 z1 z228 ⟨zd_X7_at, rfl, rfl, rfl, ⟨Nat.le_of_ble_eq_true rfl, Nat.le_of_ble_eq_true rfl⟩, Nat.le_of_ble_eq_true rfl, Nat.le_of_ble_eq_true rfl, Nat.le_of_ble_eq_true rfl⟩) rfl ?_
    refine j_aload_n K dX6_split_92 rfl 0 rfl ?_
    obtain ⟨v93, e93, h⟩ := bd h
    refine fgX6_25 K dX6_split_93 e93 ?_
    refine j_iload_n K dX6_split_96 rfl 2 rfl ?_
    obtain ⟨v97, S97, e97, h⟩ := bd2 h
    refine j_cI (st := [vI v89, vR (some o), vI x2, vR v79]) K (r_SN (vs := [vR v93, vI x2]) (n := 2) (host := RX7) K (c_X7_at e97) dX6_split_97 (List.mem_of_getElem? (i := 4) rfl) z227 z1 z228 ⟨zd_X7_at, rfl, rfl, rfl, ⟨Nat.le_of_ble_eq_true rfl, Nat.le_of_ble_eq_true rfl⟩, Nat.le_of_ble_eq_true rfl, Nat.le_of_ble_eq_true rfl, Nat.le_of_ble_eq_true rfl⟩) rfl ?_
    obtain ⟨w100, ew100, h⟩ := bd h
    have ho100 := obS ew100
    obtain ⟨v100, S100, e100, h⟩ := bd2 h
    refine j_cI (st := [vI x2, vR v79]) K (r_V (vs := [vI v89, vI v97]) (n := 2) (o := o) K (c_X6_kindOfToken e100) ho100 (by decide) rfl dX6_split_100 z242 z244 zs1 z3 z245 ⟨zd_X6_kindOfToken, rfl, rfl, rfl, ⟨Nat.le_of_ble_eq_true rfl, Nat.le_of_ble_eq_true rfl⟩, Nat.le_of_ble_eq_true rfl, Nat.le_of_ble_eq_true rfl, Nat.le_of_ble_eq_true rfl⟩) rfl ?_
    obtain ⟨S103, e103, h⟩ := bd h
    refine j_cV (st := []) K (r_SN (vs := [vR v79, vI x2, vI v100]) (n := 3) (host := RX7) K (c_X7_store e103) dX6_split_103 (List.mem_of_getElem? (i := 3) rfl) z216 z1 z217 ⟨zd_X7_store, rfl, rfl, rfl, ⟨Nat.le_of_ble_eq_true rfl, Nat.le_of_ble_eq_true rfl⟩, Nat.le_of_ble_eq_true rfl, Nat.le_of_ble_eq_true rfl, Nat.le_of_ble_eq_true rfl⟩) rfl ?_
    refine j_iinc (q := 2) (v := (x2 + (1 : Int32))) (lv' := [(2, vI (x2 + (1 : Int32))), (0, vR (some o)), (1, vI x1)]) K dX6_split_106 rfl rfl X.2.2.1 (by decide) rfl ?_
    refine j_goto K dX6_split_109 ?_
    exact j_sub [1, 2, 0] rfl (hk73 _ _ h)
def B_X6_split_73 (fu : Nat) (o : Nat) (x1 : Int32) : Nat → Hp → Int32 → Option (Hp)
  | 0 => fun _ _ => none
  | n + 1 => L_X6_split_73 (B_X6_split_73 fu o x1 n) fu o x1
theorem w_X6_split_73 {E : Cx} {l : Launch} {res : Hp} {ad : Nat → Nat} {fu : Nat} {o : Nat} {x1 : Int32} (K : Kx E cX6_split RX6 (rmd 7 0 0)) (X : Bx E l yX6_split 4 none 0 0 ad (QV res)) : ∀ (n : Nat) (S : Hp) (x2 : Int32), B_X6_split_73 fu o x1 n S x2 = some res → J E 0 0 73 [(0, vR (some o)), (1, vI x1), (2, vI x2)] [] S ad := by
  intro n
  induction n with
  | zero =>
    intro S x2 h
    cases h
  | succ n ih =>
    intro S x2 h
    exact wl_X6_split_73 K X ih h
def L_X6_split_4 (k4 : Hp → Int32 → Int32 → Option (Hp)) (fu : Nat) (o : Nat) (S : Hp) (x1 : Int32) (x2 : Int32) : Option (Hp) :=
  (gI S (some o) 4 1).bind fun v6 =>
  if v6 ≤ x2 then
    B_X6_split_73 fu o x1 fu S (0 : Int32)
  else
    (gR S (some o) 4 0).bind fun v13 =>
    b2 (F_X7_at S v13 x2) fun v17 S17 =>
    b2 (F_X6_isBlank S17 v17) fun v20 S20 =>
    if v20 = 0 then
      (ob S20 4 (some o)).bind fun _ =>
      b2 (F_X6_goesOnAt S20 o x2) fun v30 S30 =>
      if v30 = 0 then
        (gR S30 (some o) 4 3).bind fun v37 =>
        (F_X7_store S30 v37 x1 x2).bind fun S42 =>
        B_X6_split_48 k4 fu o S42 (x1 + (1 : Int32)) x2 v20
      else
        B_X6_split_48 k4 fu o S30 x1 x2 v20
    else
      B_X6_split_48 k4 fu o S20 x1 x2 v20
set_option maxRecDepth 100000 in
set_option maxHeartbeats 4000000 in
theorem wl_X6_split_4 {E : Cx} {l : Launch} {res : Hp} {ad : Nat → Nat} {k4 : Hp → Int32 → Int32 → Option (Hp)} {fu : Nat} {o : Nat} {S : Hp} {x1 : Int32} {x2 : Int32} (K : Kx E cX6_split RX6 (rmd 7 0 0)) (X : Bx E l yX6_split 4 none 0 0 ad (QV res)) (hk4 : ∀ (S : Hp) (x1 : Int32) (x2 : Int32), k4 S x1 x2 = some res → J E 0 0 4 [(0, vR (some o)), (1, vI x1), (2, vI x2)] [] S ad) (h : L_X6_split_4 k4 fu o S x1 x2 = some res) : J E 0 0 4 [(0, vR (some o)), (1, vI x1), (2, vI x2)] [] S ad := by
  refine j_iload_n K dX6_split_4 rfl 2 rfl ?_
  refine j_aload_n K dX6_split_5 rfl 0 rfl ?_
  obtain ⟨v6, e6, h⟩ := bd h
  refine fgX6_15 K dX6_split_6 e6 ?_
  refine j_icmp_ge K dX6_split_9 (fun c9 => ?_) (fun c9 => ?_)
  · replace h := it c9 h
    refine j_iconst (v := (0 : Int32)) K dX6_split_71 (by decide) ?_
    refine j_istore_n (lv' := [(2, vI (0 : Int32)), (0, vR (some o)), (1, vI x1)]) K dX6_split_72 rfl X.2.2.1 (by decide) rfl ?_
    exact j_sub [1, 2, 0] rfl (w_X6_split_73 K X _ _ _ h)
  · replace h := ie c9 h
    refine j_aload_n K dX6_split_12 rfl 0 rfl ?_
    obtain ⟨v13, e13, h⟩ := bd h
    refine fgX6_9 K dX6_split_13 e13 ?_
    refine j_iload_n K dX6_split_16 rfl 2 rfl ?_
    obtain ⟨v17, S17, e17, h⟩ := bd2 h
    refine j_cI (st := []) K (r_SN (vs := [vR v13, vI x2]) (n := 2) (host := RX7) K (c_X7_at e17) dX6_split_17 (List.mem_of_getElem? (i := 4) rfl) z227 z1 z228 ⟨zd_X7_at, rfl, rfl, rfl, ⟨Nat.le_of_ble_eq_true rfl, Nat.le_of_ble_eq_true rfl⟩, Nat.le_of_ble_eq_true rfl, Nat.le_of_ble_eq_true rfl, Nat.le_of_ble_eq_true rfl⟩) rfl ?_
    obtain ⟨v20, S20, e20, h⟩ := bd2 h
    refine j_cI (st := []) K (r_S (vs := [vI v17]) (n := 1) K (c_X6_isBlank e20) dX6_split_20 z229 z230 z3 z231 ⟨zd_X6_isBlank, rfl, rfl, rfl, ⟨Nat.le_of_ble_eq_true rfl, Nat.le_of_ble_eq_true rfl⟩, Nat.le_of_ble_eq_true rfl, Nat.le_of_ble_eq_true rfl, Nat.le_of_ble_eq_true rfl⟩) rfl ?_
    refine j_istore_n (lv' := [(3, vI v20), (0, vR (some o)), (1, vI x1), (2, vI x2)]) K dX6_split_23 rfl X.2.2.1 (by decide) rfl ?_
    refine j_iload_n K dX6_split_24 rfl 0 rfl ?_
    refine j_if_ne K dX6_split_25 (fun c25 => ?_) (fun c25 => ?_)
    · replace h := ie c25 h
      exact j_sub [1, 2, 3, 0] rfl (w_X6_split_48 K X hk4 h)
    · replace h := it c25 h
      refine j_aload_n K dX6_split_28 rfl 1 rfl ?_
      refine j_iload_n K dX6_split_29 rfl 3 rfl ?_
      obtain ⟨w30, ew30, h⟩ := bd h
      have ho30 := obS ew30
      obtain ⟨v30, S30, e30, h⟩ := bd2 h
      refine j_cI (st := []) K (r_V (vs := [vI x2]) (n := 1) (o := o) K (c_X6_goesOnAt e30) ho30 (by decide) rfl dX6_split_30 z232 z234 zs0 z3 z235 ⟨zd_X6_goesOnAt, rfl, rfl, rfl, ⟨Nat.le_of_ble_eq_true rfl, Nat.le_of_ble_eq_true rfl⟩, Nat.le_of_ble_eq_true rfl, Nat.le_of_ble_eq_true rfl, Nat.le_of_ble_eq_true rfl⟩) rfl ?_
      refine j_if_ne K dX6_split_33 (fun c33 => ?_) (fun c33 => ?_)
      · replace h := ie c33 h
        exact j_sub [1, 2, 3, 0] rfl (w_X6_split_48 K X hk4 h)
      · replace h := it c33 h
        refine j_aload_n K dX6_split_36 rfl 1 rfl ?_
        obtain ⟨v37, e37, h⟩ := bd h
        refine fgX6_22 K dX6_split_37 e37 ?_
        refine j_iload_n K dX6_split_40 rfl 2 rfl ?_
        refine j_iload_n K dX6_split_41 rfl 3 rfl ?_
        obtain ⟨S42, e42, h⟩ := bd h
        refine j_cV (st := []) K (r_SN (vs := [vR v37, vI x1, vI x2]) (n := 3) (host := RX7) K (c_X7_store e42) dX6_split_42 (List.mem_of_getElem? (i := 3) rfl) z216 z1 z217 ⟨zd_X7_store, rfl, rfl, rfl, ⟨Nat.le_of_ble_eq_true rfl, Nat.le_of_ble_eq_true rfl⟩, Nat.le_of_ble_eq_true rfl, Nat.le_of_ble_eq_true rfl, Nat.le_of_ble_eq_true rfl⟩) rfl ?_
        refine j_iinc (q := 2) (v := (x1 + (1 : Int32))) (lv' := [(1, vI (x1 + (1 : Int32))), (3, vI v20), (0, vR (some o)), (2, vI x2)]) K dX6_split_45 rfl rfl X.2.2.1 (by decide) rfl ?_
        exact j_sub [2, 0, 3, 1] rfl (w_X6_split_48 K X hk4 h)
def B_X6_split_4 (fu : Nat) (o : Nat) : Nat → Hp → Int32 → Int32 → Option (Hp)
  | 0 => fun _ _ _ => none
  | n + 1 => L_X6_split_4 (B_X6_split_4 fu o n) fu o
theorem w_X6_split_4 {E : Cx} {l : Launch} {res : Hp} {ad : Nat → Nat} {fu : Nat} {o : Nat} (K : Kx E cX6_split RX6 (rmd 7 0 0)) (X : Bx E l yX6_split 4 none 0 0 ad (QV res)) : ∀ (n : Nat) (S : Hp) (x1 : Int32) (x2 : Int32), B_X6_split_4 fu o n S x1 x2 = some res → J E 0 0 4 [(0, vR (some o)), (1, vI x1), (2, vI x2)] [] S ad := by
  intro n
  induction n with
  | zero =>
    intro S x1 x2 h
    cases h
  | succ n ih =>
    intro S x1 x2 h
    exact wl_X6_split_4 K X ih h
def F_X6_split (fu : Nat) (S : Hp) (o : Nat) : Option (Hp) :=
  B_X6_split_4 fu o fu S (0 : Int32) (0 : Int32)
set_option maxRecDepth 100000 in
set_option maxHeartbeats 4000000 in
theorem w_X6_split {E : Cx} {l : Launch} {res : Hp} {ad : Nat → Nat} {fu : Nat} {S : Hp} {o : Nat} (K : Kx E cX6_split RX6 (rmd 7 0 0)) (X : Bx E l yX6_split 4 none 0 0 ad (QV res)) (h : F_X6_split fu S o = some res) : J E 0 0 0 [(0, vR (some o))] [] S ad := by
  refine j_iconst (v := (0 : Int32)) K dX6_split_0 (by decide) ?_
  refine j_istore_n (lv' := [(1, vI (0 : Int32)), (0, vR (some o))]) K dX6_split_1 rfl X.2.2.1 (by decide) rfl ?_
  refine j_iconst (v := (0 : Int32)) K dX6_split_2 (by decide) ?_
  refine j_istore_n (lv' := [(2, vI (0 : Int32)), (1, vI (0 : Int32)), (0, vR (some o))]) K dX6_split_3 rfl X.2.2.1 (by decide) rfl ?_
  exact j_sub [2, 1, 0] rfl (w_X6_split_4 K X _ _ _ _ h)
theorem c_X6_split {l : Launch} {fu : Nat} {S : Hp} {o : Nat} {res : Hp} (h : F_X6_split fu S o = some res) : Ct l yX6_split cX6_split 4 none (rmd 7 0 0) 0 0 [vR (some o)] S (QV res) :=
  z_entry (by decide +kernel) (Nat.le_of_ble_eq_true rfl) (fun E ad K X => w_X6_split K X h)

theorem dX3_isNext_0 : decode cX3_isNext 0 = .ok (.aload_n 0, 1) ∧ 0 + 1 = 1 := ⟨by decide +kernel, rfl⟩
theorem dX3_isNext_1 : decode cX3_isNext 1 = .ok (.getfield 9, 3) ∧ 1 + 3 = 4 := ⟨by decide +kernel, rfl⟩
theorem dX3_isNext_4 : decode cX3_isNext 4 = .ok (.iconst (-1), 1) ∧ 4 + 1 = 5 := ⟨by decide +kernel, rfl⟩
theorem dX3_isNext_5 : decode cX3_isNext 5 = .ok (.if_icmp .ne 25, 3) ∧ 5 + 3 = 8 ∧ ((5 : Nat) : Int) + (25) = ((30 : Nat) : Int) := ⟨by decide +kernel, rfl, by decide⟩
theorem dX3_isNext_8 : decode cX3_isNext 8 = .ok (.aload_n 0, 1) ∧ 8 + 1 = 9 := ⟨by decide +kernel, rfl⟩
theorem dX3_isNext_9 : decode cX3_isNext 9 = .ok (.getfield 28, 3) ∧ 9 + 3 = 12 := ⟨by decide +kernel, rfl⟩
theorem dX3_isNext_12 : decode cX3_isNext 12 = .ok (.getfield 85, 3) ∧ 12 + 3 = 15 := ⟨by decide +kernel, rfl⟩
theorem dX3_isNext_15 : decode cX3_isNext 15 = .ok (.aload_n 0, 1) ∧ 15 + 1 = 16 := ⟨by decide +kernel, rfl⟩
theorem dX3_isNext_16 : decode cX3_isNext 16 = .ok (.getfield 15, 3) ∧ 16 + 3 = 19 := ⟨by decide +kernel, rfl⟩
theorem dX3_isNext_19 : decode cX3_isNext 19 = .ok (.invokestatic 88, 3) := by decide +kernel
theorem dX3_isNext_22 : decode cX3_isNext 22 = .ok (.iload_n 1, 1) ∧ 22 + 1 = 23 := ⟨by decide +kernel, rfl⟩
theorem dX3_isNext_23 : decode cX3_isNext 23 = .ok (.if_icmp .ne 7, 3) ∧ 23 + 3 = 26 ∧ ((23 : Nat) : Int) + (7) = ((30 : Nat) : Int) := ⟨by decide +kernel, rfl, by decide⟩
theorem dX3_isNext_26 : decode cX3_isNext 26 = .ok (.iconst 1, 1) ∧ 26 + 1 = 27 := ⟨by decide +kernel, rfl⟩
theorem dX3_isNext_27 : decode cX3_isNext 27 = .ok (.goto 4, 3) ∧ ((27 : Nat) : Int) + (4) = ((31 : Nat) : Int) := ⟨by decide +kernel, by decide⟩
theorem dX3_isNext_30 : decode cX3_isNext 30 = .ok (.iconst 0, 1) ∧ 30 + 1 = 31 := ⟨by decide +kernel, rfl⟩
theorem dX3_isNext_31 : decode cX3_isNext 31 = .ok (.ireturn, 1) := by decide +kernel
def B_X3_isNext_31 (o : Nat) (S : Hp) (s0 : Int32) : Option (Int32 × Hp) :=
  zb s0 S
set_option maxRecDepth 100000 in
set_option maxHeartbeats 4000000 in
theorem w_X3_isNext_31 {E : Cx} {l : Launch} {res : Int32 × Hp} {ad : Nat → Nat} {o : Nat} {S : Hp} {s0 : Int32} (K : Kx E cX3_isNext RX3 (rmd 1 0 0)) (X : Bx E l yX3_isNext 2 (some .boolean) 0 0 ad (QI res)) (h : B_X3_isNext_31 o S s0 = some res) : J E 0 0 31 [] [vI s0] S ad := by
  exact j_zret K X dX3_isNext_31 h
def B_X3_isNext_30 (o : Nat) (S : Hp) : Option (Int32 × Hp) :=
  B_X3_isNext_31 o S (0 : Int32)
set_option maxRecDepth 100000 in
set_option maxHeartbeats 4000000 in
theorem w_X3_isNext_30 {E : Cx} {l : Launch} {res : Int32 × Hp} {ad : Nat → Nat} {o : Nat} {S : Hp} (K : Kx E cX3_isNext RX3 (rmd 1 0 0)) (X : Bx E l yX3_isNext 2 (some .boolean) 0 0 ad (QI res)) (h : B_X3_isNext_30 o S = some res) : J E 0 0 30 [] [] S ad := by
  refine j_iconst (v := (0 : Int32)) K dX3_isNext_30 (by decide) ?_
  exact w_X3_isNext_31 K X h
def F_X3_isNext (S : Hp) (o : Nat) (x1 : Int32) : Option (Int32 × Hp) :=
  (gI S (some o) 2 1).bind fun v1 =>
  if v1 = (-1 : Int32) then
    (gR S (some o) 2 0).bind fun v9 =>
    (gR S v9 4 2).bind fun v12 =>
    (gI S (some o) 2 2).bind fun v16 =>
    b2 (F_X7_at S v12 v16) fun v19 S19 =>
    if v19 = x1 then
      B_X3_isNext_31 o S19 (1 : Int32)
    else
      B_X3_isNext_30 o S19
  else
    B_X3_isNext_30 o S
set_option maxRecDepth 100000 in
set_option maxHeartbeats 4000000 in
theorem w_X3_isNext {E : Cx} {l : Launch} {res : Int32 × Hp} {ad : Nat → Nat} {S : Hp} {o : Nat} {x1 : Int32} (K : Kx E cX3_isNext RX3 (rmd 1 0 0)) (X : Bx E l yX3_isNext 2 (some .boolean) 0 0 ad (QI res)) (h : F_X3_isNext S o x1 = some res) : J E 0 0 0 [(0, vR (some o)), (1, vI x1)] [] S ad := by
  refine j_aload_n K dX3_isNext_0 rfl 0 rfl ?_
  obtain ⟨v1, e1, h⟩ := bd h
  refine fgX3_9 K dX3_isNext_1 e1 ?_
  refine j_iconst (v := (-1 : Int32)) K dX3_isNext_4 (by decide) ?_
  refine j_icmp_ne K dX3_isNext_5 (fun c5 => ?_) (fun c5 => ?_)
  · replace h := ie c5 h
    exact j_sub [] rfl (w_X3_isNext_30 K X h)
  · replace h := it c5 h
    refine j_aload_n K dX3_isNext_8 rfl 0 rfl ?_
    obtain ⟨v9, e9, h⟩ := bd h
    refine fgX3_28 K dX3_isNext_9 e9 ?_
    obtain ⟨v12, e12, h⟩ := bd h
    refine fgX3_85 K dX3_isNext_12 e12 ?_
    refine j_aload_n K dX3_isNext_15 rfl 0 rfl ?_
    obtain ⟨v16, e16, h⟩ := bd h
    refine fgX3_15 K dX3_isNext_16 e16 ?_
    obtain ⟨v19, S19, e19, h⟩ := bd2 h
    refine j_cI (st := []) K (r_SN (vs := [vR v12, vI v16]) (n := 2) (host := RX7) K (c_X7_at e19) dX3_isNext_19 (List.mem_of_getElem? (i := 5) rfl) z227 z1 z228 ⟨zd_X7_at, rfl, rfl, rfl, ⟨Nat.le_of_ble_eq_true rfl, Nat.le_of_ble_eq_true rfl⟩, Nat.le_of_ble_eq_true rfl, Nat.le_of_ble_eq_true rfl, Nat.le_of_ble_eq_true rfl⟩) rfl ?_
    refine j_iload_n K dX3_isNext_22 rfl 1 rfl ?_
    refine j_icmp_ne K dX3_isNext_23 (fun c23 => ?_) (fun c23 => ?_)
    · replace h := ie c23 h
      exact j_sub [] rfl (w_X3_isNext_30 K X h)
    · replace h := it c23 h
      refine j_iconst (v := (1 : Int32)) K dX3_isNext_26 (by decide) ?_
      refine j_goto K dX3_isNext_27 ?_
      exact j_sub [] rfl (w_X3_isNext_31 K X h)
theorem c_X3_isNext {l : Launch} {S : Hp} {o : Nat} {x1 : Int32} {res : Int32 × Hp} (h : F_X3_isNext S o x1 = some res) : Ct l yX3_isNext cX3_isNext 2 (some .boolean) (rmd 1 0 0) 0 0 [vR (some o), vI x1] S (QI res) :=
  z_entry (by decide +kernel) (Nat.le_of_ble_eq_true rfl) (fun E ad K X => w_X3_isNext K X h)

theorem dX3_fail_0 : decode cX3_fail 0 = .ok (.aload_n 0, 1) ∧ 0 + 1 = 1 := ⟨by decide +kernel, rfl⟩
theorem dX3_fail_1 : decode cX3_fail 1 = .ok (.getfield 9, 3) ∧ 1 + 3 = 4 := ⟨by decide +kernel, rfl⟩
theorem dX3_fail_4 : decode cX3_fail 4 = .ok (.iconst (-1), 1) ∧ 4 + 1 = 5 := ⟨by decide +kernel, rfl⟩
theorem dX3_fail_5 : decode cX3_fail 5 = .ok (.if_icmp .ne 21, 3) ∧ 5 + 3 = 8 ∧ ((5 : Nat) : Int) + (21) = ((26 : Nat) : Int) := ⟨by decide +kernel, rfl, by decide⟩
theorem dX3_fail_8 : decode cX3_fail 8 = .ok (.aload_n 0, 1) ∧ 8 + 1 = 9 := ⟨by decide +kernel, rfl⟩
theorem dX3_fail_9 : decode cX3_fail 9 = .ok (.aload_n 0, 1) ∧ 9 + 1 = 10 := ⟨by decide +kernel, rfl⟩
theorem dX3_fail_10 : decode cX3_fail 10 = .ok (.getfield 28, 3) ∧ 10 + 3 = 13 := ⟨by decide +kernel, rfl⟩
theorem dX3_fail_13 : decode cX3_fail 13 = .ok (.getfield 108, 3) ∧ 13 + 3 = 16 := ⟨by decide +kernel, rfl⟩
theorem dX3_fail_16 : decode cX3_fail 16 = .ok (.aload_n 0, 1) ∧ 16 + 1 = 17 := ⟨by decide +kernel, rfl⟩
theorem dX3_fail_17 : decode cX3_fail 17 = .ok (.getfield 15, 3) ∧ 17 + 3 = 20 := ⟨by decide +kernel, rfl⟩
theorem dX3_fail_20 : decode cX3_fail 20 = .ok (.invokestatic 88, 3) := by decide +kernel
theorem dX3_fail_23 : decode cX3_fail 23 = .ok (.putfield 9, 3) ∧ 23 + 3 = 26 := ⟨by decide +kernel, rfl⟩
theorem dX3_fail_26 : decode cX3_fail 26 = .ok (.return_, 1) := by decide +kernel
def B_X3_fail_26 (o : Nat) (S : Hp) : Option (Hp) :=
  some S
set_option maxRecDepth 100000 in
set_option maxHeartbeats 4000000 in
theorem w_X3_fail_26 {E : Cx} {l : Launch} {res : Hp} {ad : Nat → Nat} {o : Nat} {S : Hp} (K : Kx E cX3_fail RX3 (rmd 1 0 0)) (X : Bx E l yX3_fail 1 none 0 0 ad (QV res)) (h : B_X3_fail_26 o S = some res) : J E 0 0 26 [] [] S ad := by
  exact j_vret K X dX3_fail_26 h
def F_X3_fail (S : Hp) (o : Nat) : Option (Hp) :=
  (gI S (some o) 2 1).bind fun v1 =>
  if v1 = (-1 : Int32) then
    (gR S (some o) 2 0).bind fun v10 =>
    (gR S v10 4 3).bind fun v13 =>
    (gI S (some o) 2 2).bind fun v17 =>
    b2 (F_X7_at S v13 v17) fun v20 S20 =>
    (pI S20 (some o) 2 1 v20).bind fun S23 =>
    B_X3_fail_26 o S23
  else
    B_X3_fail_26 o S
set_option maxRecDepth 100000 in
set_option maxHeartbeats 4000000 in
theorem w_X3_fail {E : Cx} {l : Launch} {res : Hp} {ad : Nat → Nat} {S : Hp} {o : Nat} (K : Kx E cX3_fail RX3 (rmd 1 0 0)) (X : Bx E l yX3_fail 1 none 0 0 ad (QV res)) (h : F_X3_fail S o = some res) : J E 0 0 0 [(0, vR (some o))] [] S ad := by
  refine j_aload_n K dX3_fail_0 rfl 0 rfl ?_
  obtain ⟨v1, e1, h⟩ := bd h
  refine fgX3_9 K dX3_fail_1 e1 ?_
  refine j_iconst (v := (-1 : Int32)) K dX3_fail_4 (by decide) ?_
  refine j_icmp_ne K dX3_fail_5 (fun c5 => ?_) (fun c5 => ?_)
  · replace h := ie c5 h
    exact j_sub [] rfl (w_X3_fail_26 K X h)
  · replace h := it c5 h
    refine j_aload_n K dX3_fail_8 rfl 0 rfl ?_
    refine j_aload_n K dX3_fail_9 rfl 0 rfl ?_
    obtain ⟨v10, e10, h⟩ := bd h
    refine fgX3_28 K dX3_fail_10 e10 ?_
    obtain ⟨v13, e13, h⟩ := bd h
    refine fgX3_108 K dX3_fail_13 e13 ?_
    refine j_aload_n K dX3_fail_16 rfl 0 rfl ?_
    obtain ⟨v17, e17, h⟩ := bd h
    refine fgX3_15 K dX3_fail_17 e17 ?_
    obtain ⟨v20, S20, e20, h⟩ := bd2 h
    refine j_cI (st := [vR (some o)]) K (r_SN (vs := [vR v13, vI v17]) (n := 2) (host := RX7) K (c_X7_at e20) dX3_fail_20 (List.mem_of_getElem? (i := 5) rfl) z227 z1 z228 ⟨zd_X7_at, rfl, rfl, rfl, ⟨Nat.le_of_ble_eq_true rfl, Nat.le_of_ble_eq_true rfl⟩, Nat.le_of_ble_eq_true rfl, Nat.le_of_ble_eq_true rfl, Nat.le_of_ble_eq_true rfl⟩) rfl ?_
    obtain ⟨S23, e23, h⟩ := bd h
    refine fpX3_9 K dX3_fail_23 e23 ?_
    exact j_sub [] rfl (w_X3_fail_26 K X h)
theorem c_X3_fail {l : Launch} {S : Hp} {o : Nat} {res : Hp} (h : F_X3_fail S o = some res) : Ct l yX3_fail cX3_fail 1 none (rmd 1 0 0) 0 0 [vR (some o)] S (QV res) :=
  z_entry (by decide +kernel) (Nat.le_of_ble_eq_true rfl) (fun E ad K X => w_X3_fail K X h)

theorem dX3_expect_0 : decode cX3_expect 0 = .ok (.aload_n 0, 1) ∧ 0 + 1 = 1 := ⟨by decide +kernel, rfl⟩
theorem dX3_expect_1 : decode cX3_expect 1 = .ok (.iload_n 1, 1) ∧ 1 + 1 = 2 := ⟨by decide +kernel, rfl⟩
theorem dX3_expect_2 : decode cX3_expect 2 = .ok (.invokevirtual 43, 3) := by decide +kernel
theorem dX3_expect_5 : decode cX3_expect 5 = .ok (.ifCond .eq 16, 3) ∧ 5 + 3 = 8 ∧ ((5 : Nat) : Int) + (16) = ((21 : Nat) : Int) := ⟨by decide +kernel, rfl, by decide⟩
theorem dX3_expect_8 : decode cX3_expect 8 = .ok (.aload_n 0, 1) ∧ 8 + 1 = 9 := ⟨by decide +kernel, rfl⟩
theorem dX3_expect_9 : decode cX3_expect 9 = .ok (.dup, 1) ∧ 9 + 1 = 10 := ⟨by decide +kernel, rfl⟩
theorem dX3_expect_10 : decode cX3_expect 10 = .ok (.getfield 15, 3) ∧ 10 + 3 = 13 := ⟨by decide +kernel, rfl⟩
theorem dX3_expect_13 : decode cX3_expect 13 = .ok (.iconst 1, 1) ∧ 13 + 1 = 14 := ⟨by decide +kernel, rfl⟩
theorem dX3_expect_14 : decode cX3_expect 14 = .ok (.iadd, 1) ∧ 14 + 1 = 15 := ⟨by decide +kernel, rfl⟩
theorem dX3_expect_15 : decode cX3_expect 15 = .ok (.putfield 15, 3) ∧ 15 + 3 = 18 := ⟨by decide +kernel, rfl⟩
theorem dX3_expect_18 : decode cX3_expect 18 = .ok (.goto 7, 3) ∧ ((18 : Nat) : Int) + (7) = ((25 : Nat) : Int) := ⟨by decide +kernel, by decide⟩
theorem dX3_expect_21 : decode cX3_expect 21 = .ok (.aload_n 0, 1) ∧ 21 + 1 = 22 := ⟨by decide +kernel, rfl⟩
theorem dX3_expect_22 : decode cX3_expect 22 = .ok (.invokevirtual 47, 3) := by decide +kernel
theorem dX3_expect_25 : decode cX3_expect 25 = .ok (.return_, 1) := by decide +kernel
def B_X3_expect_25 (o : Nat) (S : Hp) : Option (Hp) :=
  some S
set_option maxRecDepth 100000 in
set_option maxHeartbeats 4000000 in
theorem w_X3_expect_25 {E : Cx} {l : Launch} {res : Hp} {ad : Nat → Nat} {o : Nat} {S : Hp} (K : Kx E cX3_expect RX3 (rmd 2 0 0)) (X : Bx E l yX3_expect 2 none 0 0 ad (QV res)) (h : B_X3_expect_25 o S = some res) : J E 0 0 25 [] [] S ad := by
  exact j_vret K X dX3_expect_25 h
def F_X3_expect (S : Hp) (o : Nat) (x1 : Int32) : Option (Hp) :=
  (ob S 2 (some o)).bind fun _ =>
  b2 (F_X3_isNext S o x1) fun v2 S2 =>
  if v2 = 0 then
    (ob S2 2 (some o)).bind fun _ =>
    (F_X3_fail S2 o).bind fun S22 =>
    B_X3_expect_25 o S22
  else
    (gI S2 (some o) 2 2).bind fun v10 =>
    (pI S2 (some o) 2 2 (v10 + (1 : Int32))).bind fun S15 =>
    B_X3_expect_25 o S15
set_option maxRecDepth 100000 in
set_option maxHeartbeats 4000000 in
theorem w_X3_expect {E : Cx} {l : Launch} {res : Hp} {ad : Nat → Nat} {S : Hp} {o : Nat} {x1 : Int32} (K : Kx E cX3_expect RX3 (rmd 2 0 0)) (X : Bx E l yX3_expect 2 none 0 0 ad (QV res)) (h : F_X3_expect S o x1 = some res) : J E 0 0 0 [(0, vR (some o)), (1, vI x1)] [] S ad := by
  refine j_aload_n K dX3_expect_0 rfl 0 rfl ?_
  refine j_iload_n K dX3_expect_1 rfl 1 rfl ?_
  obtain ⟨w2, ew2, h⟩ := bd h
  have ho2 := obS ew2
  obtain ⟨v2, S2, e2, h⟩ := bd2 h
  refine j_cI (st := []) K (r_V (vs := [vI x1]) (n := 1) (o := o) K (c_X3_isNext e2) ho2 (by decide) rfl dX3_expect_2 z279 z281 zs5 z4 z282 ⟨zd_X3_isNext, rfl, rfl, rfl, ⟨Nat.le_of_ble_eq_true rfl, Nat.le_of_ble_eq_true rfl⟩, Nat.le_of_ble_eq_true rfl, Nat.le_of_ble_eq_true rfl, Nat.le_of_ble_eq_true rfl⟩) rfl ?_
  refine j_if_eq K dX3_expect_5 (fun c5 => ?_) (fun c5 => ?_)
  · replace h := it c5 h
    refine j_aload_n K dX3_expect_21 rfl 0 rfl ?_
    obtain ⟨w22, ew22, h⟩ := bd h
    have ho22 := obS ew22
    obtain ⟨S22, e22, h⟩ := bd h
    refine j_cV (st := []) K (r_V (vs := []) (n := 0) (o := o) K (c_X3_fail e22) ho22 (by decide) rfl dX3_expect_22 z284 z286 zs6 z4 z287 ⟨zd_X3_fail, rfl, rfl, rfl, ⟨Nat.le_of_ble_eq_true rfl, Nat.le_of_ble_eq_true rfl⟩, Nat.le_of_ble_eq_true rfl, Nat.le_of_ble_eq_true rfl, Nat.le_of_ble_eq_true rfl⟩) rfl ?_
    exact j_sub [] rfl (w_X3_expect_25 K X h)
  · replace h := ie c5 h
    refine j_aload_n K dX3_expect_8 rfl 0 rfl ?_
    refine j_dup K dX3_expect_9 rfl ?_
    obtain ⟨v10, e10, h⟩ := bd h
    refine fgX3_15 K dX3_expect_10 e10 ?_
    refine j_iconst (v := (1 : Int32)) K dX3_expect_13 (by decide) ?_
    refine j_iadd K dX3_expect_14 ?_
    obtain ⟨S15, e15, h⟩ := bd h
    refine fpX3_15 K dX3_expect_15 e15 ?_
    refine j_goto K dX3_expect_18 ?_
    exact j_sub [] rfl (w_X3_expect_25 K X h)
theorem c_X3_expect {l : Launch} {S : Hp} {o : Nat} {x1 : Int32} {res : Hp} (h : F_X3_expect S o x1 = some res) : Ct l yX3_expect cX3_expect 2 none (rmd 2 0 0) 0 0 [vR (some o), vI x1] S (QV res) :=
  z_entry (by decide +kernel) (Nat.le_of_ble_eq_true rfl) (fun E ad K X => w_X3_expect K X h)

theorem dX3_openAll_0 : decode cX3_openAll 0 = .ok (.iconst 0, 1) ∧ 0 + 1 = 1 := ⟨by decide +kernel, rfl⟩
theorem dX3_openAll_1 : decode cX3_openAll 1 = .ok (.istore_n 3, 1) ∧ 1 + 1 = 2 := ⟨by decide +kernel, rfl⟩
theorem dX3_openAll_2 : decode cX3_openAll 2 = .ok (.iload_n 2, 1) ∧ 2 + 1 = 3 := ⟨by decide +kernel, rfl⟩
theorem dX3_openAll_3 : decode cX3_openAll 3 = .ok (.iload_n 3, 1) ∧ 3 + 1 = 4 := ⟨by decide +kernel, rfl⟩
theorem dX3_openAll_4 : decode cX3_openAll 4 = .ok (.iadd, 1) ∧ 4 + 1 = 5 := ⟨by decide +kernel, rfl⟩
theorem dX3_openAll_5 : decode cX3_openAll 5 = .ok (.iconst 5, 1) ∧ 5 + 1 = 6 := ⟨by decide +kernel, rfl⟩
theorem dX3_openAll_6 : decode cX3_openAll 6 = .ok (.if_icmp .ge 27, 3) ∧ 6 + 3 = 9 ∧ ((6 : Nat) : Int) + (27) = ((33 : Nat) : Int) := ⟨by decide +kernel, rfl, by decide⟩
theorem dX3_openAll_9 : decode cX3_openAll 9 = .ok (.aload_n 0, 1) ∧ 9 + 1 = 10 := ⟨by decide +kernel, rfl⟩
theorem dX3_openAll_10 : decode cX3_openAll 10 = .ok (.iload_n 1, 1) ∧ 10 + 1 = 11 := ⟨by decide +kernel, rfl⟩
theorem dX3_openAll_11 : decode cX3_openAll 11 = .ok (.invokevirtual 43, 3) := by decide +kernel
theorem dX3_openAll_14 : decode cX3_openAll 14 = .ok (.ifCond .eq 19, 3) ∧ 14 + 3 = 17 ∧ ((14 : Nat) : Int) + (19) = ((33 : Nat) : Int) := ⟨by decide +kernel, rfl, by decide⟩
theorem dX3_openAll_17 : decode cX3_openAll 17 = .ok (.aload_n 0, 1) ∧ 17 + 1 = 18 := ⟨by decide +kernel, rfl⟩
theorem dX3_openAll_18 : decode cX3_openAll 18 = .ok (.dup, 1) ∧ 18 + 1 = 19 := ⟨by decide +kernel, rfl⟩
theorem dX3_openAll_19 : decode cX3_openAll 19 = .ok (.getfield 15, 3) ∧ 19 + 3 = 22 := ⟨by decide +kernel, rfl⟩
theorem dX3_openAll_22 : decode cX3_openAll 22 = .ok (.iconst 1, 1) ∧ 22 + 1 = 23 := ⟨by decide +kernel, rfl⟩
theorem dX3_openAll_23 : decode cX3_openAll 23 = .ok (.iadd, 1) ∧ 23 + 1 = 24 := ⟨by decide +kernel, rfl⟩
theorem dX3_openAll_24 : decode cX3_openAll 24 = .ok (.putfield 15, 3) ∧ 24 + 3 = 27 := ⟨by decide +kernel, rfl⟩
theorem dX3_openAll_27 : decode cX3_openAll 27 = .ok (.iinc 3 1, 3) ∧ 27 + 3 = 30 := ⟨by decide +kernel, rfl⟩
theorem dX3_openAll_30 : decode cX3_openAll 30 = .ok (.goto (-28), 3) ∧ ((30 : Nat) : Int) + (-28) = ((2 : Nat) : Int) := ⟨by decide +kernel, by decide⟩
theorem dX3_openAll_33 : decode cX3_openAll 33 = .ok (.iload_n 3, 1) ∧ 33 + 1 = 34 := ⟨by decide +kernel, rfl⟩
theorem dX3_openAll_34 : decode cX3_openAll 34 = .ok (.ireturn, 1) := by decide +kernel
def B_X3_openAll_33 (fu : Nat) (o : Nat) (S : Hp) (x3 : Int32) : Option (Int32 × Hp) :=
  some (x3, S)
set_option maxRecDepth 100000 in
set_option maxHeartbeats 4000000 in
theorem w_X3_openAll_33 {E : Cx} {l : Launch} {res : Int32 × Hp} {ad : Nat → Nat} {fu : Nat} {o : Nat} {S : Hp} {x3 : Int32} (K : Kx E cX3_openAll RX3 (rmd 2 0 0)) (X : Bx E l yX3_openAll 4 (some .int) 0 0 ad (QI res)) (h : B_X3_openAll_33 fu o S x3 = some res) : J E 0 0 33 [(3, vI x3)] [] S ad := by
  refine j_iload_n K dX3_openAll_33 rfl 0 rfl ?_
  exact j_iret K X dX3_openAll_34 h
def L_X3_openAll_2 (k2 : Hp → Int32 → Option (Int32 × Hp)) (fu : Nat) (o : Nat) (x1 : Int32) (x2 : Int32) (S : Hp) (x3 : Int32) : Option (Int32 × Hp) :=
  if (5 : Int32) ≤ (x2 + x3) then
    B_X3_openAll_33 fu o S x3
  else
    (ob S 2 (some o)).bind fun _ =>
    b2 (F_X3_isNext S o x1) fun v11 S11 =>
    if v11 = 0 then
      B_X3_openAll_33 fu o S11 x3
    else
      (gI S11 (some o) 2 2).bind fun v19 =>
      (pI S11 (some o) 2 2 (v19 + (1 : Int32))).bind fun S24 =>
      k2 S24 (x3 + (1 : Int32))
set_option maxRecDepth 100000 in
set_option maxHeartbeats 4000000 in
theorem wl_X3_openAll_2 {E : Cx} {l : Launch} {res : Int32 × Hp} {ad : Nat → Nat} {k2 : Hp → Int32 → Option (Int32 × Hp)} {fu : Nat} {o : Nat} {S : Hp} {x1 : Int32} {x2 : Int32} {x3 : Int32} (K : Kx E cX3_openAll RX3 (rmd 2 0 0)) (X : Bx E l yX3_openAll 4 (some .int) 0 0 ad (QI res)) (hk2 : ∀ (S : Hp) (x3 : Int32), k2 S x3 = some res → J E 0 0 2 [(0, vR (some o)), (1, vI x1), (2, vI x2), (3, vI x3)] [] S ad) (h : L_X3_openAll_2 k2 fu o x1 x2 S x3 = some res) : J E 0 0 2 [(0, vR (some o)), (1, vI x1), (2, vI x2), (3, vI x3)] [] S ad := by
  refine j_iload_n K dX3_openAll_2 rfl 2 rfl ?_
  refine j_iload_n K dX3_openAll_3 rfl 3 rfl ?_
  refine j_iadd K dX3_openAll_4 ?_
  refine j_iconst (v := (5 : Int32)) K dX3_openAll_5 (by decide) ?_
  refine j_icmp_ge K dX3_openAll_6 (fun c6 => ?_) (fun c6 => ?_)
  · replace h := it c6 h
    exact j_sub [3] rfl (w_X3_openAll_33 K X h)
  · replace h := ie c6 h
    refine j_aload_n K dX3_openAll_9 rfl 0 rfl ?_
    refine j_iload_n K dX3_openAll_10 rfl 1 rfl ?_
    obtain ⟨w11, ew11, h⟩ := bd h
    have ho11 := obS ew11
    obtain ⟨v11, S11, e11, h⟩ := bd2 h
    refine j_cI (st := []) K (r_V (vs := [vI x1]) (n := 1) (o := o) K (c_X3_isNext e11) ho11 (by decide) rfl dX3_openAll_11 z279 z281 zs5 z4 z282 ⟨zd_X3_isNext, rfl, rfl, rfl, ⟨Nat.le_of_ble_eq_true rfl, Nat.le_of_ble_eq_true rfl⟩, Nat.le_of_ble_eq_true rfl, Nat.le_of_ble_eq_true rfl, Nat.le_of_ble_eq_true rfl⟩) rfl ?_
    refine j_if_eq K dX3_openAll_14 (fun c14 => ?_) (fun c14 => ?_)
    · replace h := it c14 h
      exact j_sub [3] rfl (w_X3_openAll_33 K X h)
    · replace h := ie c14 h
      refine j_aload_n K dX3_openAll_17 rfl 0 rfl ?_
      refine j_dup K dX3_openAll_18 rfl ?_
      obtain ⟨v19, e19, h⟩ := bd h
      refine fgX3_15 K dX3_openAll_19 e19 ?_
      refine j_iconst (v := (1 : Int32)) K dX3_openAll_22 (by decide) ?_
      refine j_iadd K dX3_openAll_23 ?_
      obtain ⟨S24, e24, h⟩ := bd h
      refine fpX3_15 K dX3_openAll_24 e24 ?_
      refine j_iinc (q := 3) (v := (x3 + (1 : Int32))) (lv' := [(3, vI (x3 + (1 : Int32))), (0, vR (some o)), (1, vI x1), (2, vI x2)]) K dX3_openAll_27 rfl rfl X.2.2.1 (by decide) rfl ?_
      refine j_goto K dX3_openAll_30 ?_
      exact j_sub [1, 2, 3, 0] rfl (hk2 _ _ h)
def B_X3_openAll_2 (fu : Nat) (o : Nat) (x1 : Int32) (x2 : Int32) : Nat → Hp → Int32 → Option (Int32 × Hp)
  | 0 => fun _ _ => none
  | n + 1 => L_X3_openAll_2 (B_X3_openAll_2 fu o x1 x2 n) fu o x1 x2
theorem w_X3_openAll_2 {E : Cx} {l : Launch} {res : Int32 × Hp} {ad : Nat → Nat} {fu : Nat} {o : Nat} {x1 : Int32} {x2 : Int32} (K : Kx E cX3_openAll RX3 (rmd 2 0 0)) (X : Bx E l yX3_openAll 4 (some .int) 0 0 ad (QI res)) : ∀ (n : Nat) (S : Hp) (x3 : Int32), B_X3_openAll_2 fu o x1 x2 n S x3 = some res → J E 0 0 2 [(0, vR (some o)), (1, vI x1), (2, vI x2), (3, vI x3)] [] S ad := by
  intro n
  induction n with
  | zero =>
    intro S x3 h
    cases h
  | succ n ih =>
    intro S x3 h
    exact wl_X3_openAll_2 K X ih h
def F_X3_openAll (fu : Nat) (S : Hp) (o : Nat) (x1 : Int32) (x2 : Int32) : Option (Int32 × Hp) :=
  B_X3_openAll_2 fu o x1 x2 fu S (0 : Int32)
set_option maxRecDepth 100000 in
set_option maxHeartbeats 4000000 in
theorem w_X3_openAll {E : Cx} {l : Launch} {res : Int32 × Hp} {ad : Nat → Nat} {fu : Nat} {S : Hp} {o : Nat} {x1 : Int32} {x2 : Int32} (K : Kx E cX3_openAll RX3 (rmd 2 0 0)) (X : Bx E l yX3_openAll 4 (some .int) 0 0 ad (QI res)) (h : F_X3_openAll fu S o x1 x2 = some res) : J E 0 0 0 [(0, vR (some o)), (1, vI x1), (2, vI x2)] [] S ad := by
  refine j_iconst (v := (0 : Int32)) K dX3_openAll_0 (by decide) ?_
  refine j_istore_n (lv' := [(3, vI (0 : Int32)), (0, vR (some o)), (1, vI x1), (2, vI x2)]) K dX3_openAll_1 rfl X.2.2.1 (by decide) rfl ?_
  exact j_sub [1, 2, 3, 0] rfl (w_X3_openAll_2 K X _ _ _ h)
theorem c_X3_openAll {l : Launch} {fu : Nat} {S : Hp} {o : Nat} {x1 : Int32} {x2 : Int32} {res : Int32 × Hp} (h : F_X3_openAll fu S o x1 x2 = some res) : Ct l yX3_openAll cX3_openAll 4 (some .int) (rmd 2 0 0) 0 0 [vR (some o), vI x1, vI x2] S (QI res) :=
  z_entry (by decide +kernel) (Nat.le_of_ble_eq_true rfl) (fun E ad K X => w_X3_openAll K X h)

theorem dX6_numberAt_0 : decode cX6_numberAt 0 = .ok (.iconst 0, 1) ∧ 0 + 1 = 1 := ⟨by decide +kernel, rfl⟩
theorem dX6_numberAt_1 : decode cX6_numberAt 1 = .ok (.istore_n 2, 1) ∧ 1 + 1 = 2 := ⟨by decide +kernel, rfl⟩
theorem dX6_numberAt_2 : decode cX6_numberAt 2 = .ok (.aload_n 0, 1) ∧ 2 + 1 = 3 := ⟨by decide +kernel, rfl⟩
theorem dX6_numberAt_3 : decode cX6_numberAt 3 = .ok (.getfield 22, 3) ∧ 3 + 3 = 6 := ⟨by decide +kernel, rfl⟩
theorem dX6_numberAt_6 : decode cX6_numberAt 6 = .ok (.iload_n 1, 1) ∧ 6 + 1 = 7 := ⟨by decide +kernel, rfl⟩
theorem dX6_numberAt_7 : decode cX6_numberAt 7 = .ok (.invokestatic 32, 3) := by decide +kernel
theorem dX6_numberAt_10 : decode cX6_numberAt 10 = .ok (.istore_n 3, 1) ∧ 10 + 1 = 11 := ⟨by decide +kernel, rfl⟩
theorem dX6_numberAt_11 : decode cX6_numberAt 11 = .ok (.iload_n 3, 1) ∧ 11 + 1 = 12 := ⟨by decide +kernel, rfl⟩
theorem dX6_numberAt_12 : decode cX6_numberAt 12 = .ok (.aload_n 0, 1) ∧ 12 + 1 = 13 := ⟨by decide +kernel, rfl⟩
theorem dX6_numberAt_13 : decode cX6_numberAt 13 = .ok (.getfield 25, 3) ∧ 13 + 3 = 16 := ⟨by decide +kernel, rfl⟩
theorem dX6_numberAt_16 : decode cX6_numberAt 16 = .ok (.iload_n 1, 1) ∧ 16 + 1 = 17 := ⟨by decide +kernel, rfl⟩
theorem dX6_numberAt_17 : decode cX6_numberAt 17 = .ok (.invokestatic 32, 3) := by decide +kernel
theorem dX6_numberAt_20 : decode cX6_numberAt 20 = .ok (.if_icmp .ge 26, 3) ∧ 20 + 3 = 23 ∧ ((20 : Nat) : Int) + (26) = ((46 : Nat) : Int) := ⟨by decide +kernel, rfl, by decide⟩
theorem dX6_numberAt_23 : decode cX6_numberAt 23 = .ok (.bipush 10, 2) ∧ 23 + 2 = 25 := ⟨by decide +kernel, rfl⟩
theorem dX6_numberAt_25 : decode cX6_numberAt 25 = .ok (.iload_n 2, 1) ∧ 25 + 1 = 26 := ⟨by decide +kernel, rfl⟩
theorem dX6_numberAt_26 : decode cX6_numberAt 26 = .ok (.imul, 1) ∧ 26 + 1 = 27 := ⟨by decide +kernel, rfl⟩
theorem dX6_numberAt_27 : decode cX6_numberAt 27 = .ok (.aload_n 0, 1) ∧ 27 + 1 = 28 := ⟨by decide +kernel, rfl⟩
theorem dX6_numberAt_28 : decode cX6_numberAt 28 = .ok (.getfield 9, 3) ∧ 28 + 3 = 31 := ⟨by decide +kernel, rfl⟩
theorem dX6_numberAt_31 : decode cX6_numberAt 31 = .ok (.iload_n 3, 1) ∧ 31 + 1 = 32 := ⟨by decide +kernel, rfl⟩
theorem dX6_numberAt_32 : decode cX6_numberAt 32 = .ok (.invokestatic 32, 3) := by decide +kernel
theorem dX6_numberAt_35 : decode cX6_numberAt 35 = .ok (.iadd, 1) ∧ 35 + 1 = 36 := ⟨by decide +kernel, rfl⟩
theorem dX6_numberAt_36 : decode cX6_numberAt 36 = .ok (.bipush 48, 2) ∧ 36 + 2 = 38 := ⟨by decide +kernel, rfl⟩
theorem dX6_numberAt_38 : decode cX6_numberAt 38 = .ok (.isub, 1) ∧ 38 + 1 = 39 := ⟨by decide +kernel, rfl⟩
theorem dX6_numberAt_39 : decode cX6_numberAt 39 = .ok (.istore_n 2, 1) ∧ 39 + 1 = 40 := ⟨by decide +kernel, rfl⟩
theorem dX6_numberAt_40 : decode cX6_numberAt 40 = .ok (.iinc 3 1, 3) ∧ 40 + 3 = 43 := ⟨by decide +kernel, rfl⟩
theorem dX6_numberAt_43 : decode cX6_numberAt 43 = .ok (.goto (-32), 3) ∧ ((43 : Nat) : Int) + (-32) = ((11 : Nat) : Int) := ⟨by decide +kernel, by decide⟩
theorem dX6_numberAt_46 : decode cX6_numberAt 46 = .ok (.iload_n 2, 1) ∧ 46 + 1 = 47 := ⟨by decide +kernel, rfl⟩
theorem dX6_numberAt_47 : decode cX6_numberAt 47 = .ok (.ireturn, 1) := by decide +kernel
def L_X6_numberAt_11 (k11 : Hp → Int32 → Int32 → Option (Int32 × Hp)) (fu : Nat) (o : Nat) (x1 : Int32) (S : Hp) (x2 : Int32) (x3 : Int32) : Option (Int32 × Hp) :=
  (gR S (some o) 4 4).bind fun v13 =>
  b2 (F_X7_at S v13 x1) fun v17 S17 =>
  if v17 ≤ x3 then
    some (x2, S17)
  else
    (gR S17 (some o) 4 0).bind fun v28 =>
    b2 (F_X7_at S17 v28 x3) fun v32 S32 =>
    k11 S32 ((((10 : Int32) * x2) + v32) - (48 : Int32)) (x3 + (1 : Int32))
set_option maxRecDepth 100000 in
set_option maxHeartbeats 4000000 in
theorem wl_X6_numberAt_11 {E : Cx} {l : Launch} {res : Int32 × Hp} {ad : Nat → Nat} {k11 : Hp → Int32 → Int32 → Option (Int32 × Hp)} {fu : Nat} {o : Nat} {S : Hp} {x1 : Int32} {x2 : Int32} {x3 : Int32} (K : Kx E cX6_numberAt RX6 (rmd 1 0 0)) (X : Bx E l yX6_numberAt 4 (some .int) 0 0 ad (QI res)) (hk11 : ∀ (S : Hp) (x2 : Int32) (x3 : Int32), k11 S x2 x3 = some res → J E 0 0 11 [(0, vR (some o)), (1, vI x1), (2, vI x2), (3, vI x3)] [] S ad) (h : L_X6_numberAt_11 k11 fu o x1 S x2 x3 = some res) : J E 0 0 11 [(0, vR (some o)), (1, vI x1), (2, vI x2), (3, vI x3)] [] S ad := by
  refine j_iload_n K dX6_numberAt_11 rfl 3 rfl ?_
  refine j_aload_n K dX6_numberAt_12 rfl 0 rfl ?_
  obtain ⟨v13, e13, h⟩ := bd h
  refine fgX6_25 K dX6_numberAt_13 e13 ?_
  refine j_iload_n K dX6_numberAt_16 rfl 1 rfl ?_
  obtain ⟨v17, S17, e17, h⟩ := bd2 h
  refine j_cI (st := [vI x3]) K (r_SN (vs := [vR v13, vI x1]) (n := 2) (host := RX7) K (c_X7_at e17) dX6_numberAt_17 (List.mem_of_getElem? (i := 4) rfl) z227 z1 z228 ⟨zd_X7_at, rfl, rfl, rfl, ⟨Nat.le_of_ble_eq_true rfl, Nat.le_of_ble_eq_true rfl⟩, Nat.le_of_ble_eq_true rfl, Nat.le_of_ble_eq_true rfl, Nat.le_of_ble_eq_true rfl⟩) rfl ?_
  refine j_icmp_ge K dX6_numberAt_20 (fun c20 => ?_) (fun c20 => ?_)
  · replace h := it c20 h
    refine j_iload_n K dX6_numberAt_46 rfl 2 rfl ?_
    exact j_iret K X dX6_numberAt_47 h
  · replace h := ie c20 h
    refine j_bipush (v := (10 : Int32)) K dX6_numberAt_23 (by decide) ?_
    refine j_iload_n K dX6_numberAt_25 rfl 2 rfl ?_
    refine j_imul K dX6_numberAt_26 ?_
    refine j_aload_n K dX6_numberAt_27 rfl 0 rfl ?_
    obtain ⟨v28, e28, h⟩ := bd h
    refine fgX6_9 K dX6_numberAt_28 e28 ?_
    refine j_iload_n K dX6_numberAt_31 rfl 3 rfl ?_
    obtain ⟨v32, S32, e32, h⟩ := bd2 h
    refine j_cI (st := [vI ((10 : Int32) * x2)]) K (r_SN (vs := [vR v28, vI x3]) (n := 2) (host := RX7) K (c_X7_at e32) dX6_numberAt_32 (List.mem_of_getElem? (i := 4) rfl) z227 z1 z228 ⟨zd_X7_at, rfl, rfl, rfl, ⟨Nat.le_of_ble_eq_true rfl, Nat.le_of_ble_eq_true rfl⟩, Nat.le_of_ble_eq_true rfl, Nat.le_of_ble_eq_true rfl, Nat.le_of_ble_eq_true rfl⟩) rfl ?_
    refine j_iadd K dX6_numberAt_35 ?_
    refine j_bipush (v := (48 : Int32)) K dX6_numberAt_36 (by decide) ?_
    refine j_isub K dX6_numberAt_38 ?_
    refine j_istore_n (lv' := [(2, vI ((((10 : Int32) * x2) + v32) - (48 : Int32))), (0, vR (some o)), (1, vI x1), (3, vI x3)]) K dX6_numberAt_39 rfl X.2.2.1 (by decide) rfl ?_
    refine j_iinc (q := 3) (v := (x3 + (1 : Int32))) (lv' := [(3, vI (x3 + (1 : Int32))), (2, vI ((((10 : Int32) * x2) + v32) - (48 : Int32))), (0, vR (some o)), (1, vI x1)]) K dX6_numberAt_40 rfl rfl X.2.2.1 (by decide) rfl ?_
    refine j_goto K dX6_numberAt_43 ?_
    exact j_sub [2, 3, 1, 0] rfl (hk11 _ _ _ h)
def B_X6_numberAt_11 (fu : Nat) (o : Nat) (x1 : Int32) : Nat → Hp → Int32 → Int32 → Option (Int32 × Hp)
  | 0 => fun _ _ _ => none
  | n + 1 => L_X6_numberAt_11 (B_X6_numberAt_11 fu o x1 n) fu o x1
theorem w_X6_numberAt_11 {E : Cx} {l : Launch} {res : Int32 × Hp} {ad : Nat → Nat} {fu : Nat} {o : Nat} {x1 : Int32} (K : Kx E cX6_numberAt RX6 (rmd 1 0 0)) (X : Bx E l yX6_numberAt 4 (some .int) 0 0 ad (QI res)) : ∀ (n : Nat) (S : Hp) (x2 : Int32) (x3 : Int32), B_X6_numberAt_11 fu o x1 n S x2 x3 = some res → J E 0 0 11 [(0, vR (some o)), (1, vI x1), (2, vI x2), (3, vI x3)] [] S ad := by
  intro n
  induction n with
  | zero =>
    intro S x2 x3 h
    cases h
  | succ n ih =>
    intro S x2 x3 h
    exact wl_X6_numberAt_11 K X ih h
def F_X6_numberAt (fu : Nat) (S : Hp) (o : Nat) (x1 : Int32) : Option (Int32 × Hp) :=
  (gR S (some o) 4 3).bind fun v3 =>
  b2 (F_X7_at S v3 x1) fun v7 S7 =>
  B_X6_numberAt_11 fu o x1 fu S7 (0 : Int32) v7
set_option maxRecDepth 100000 in
set_option maxHeartbeats 4000000 in
theorem w_X6_numberAt {E : Cx} {l : Launch} {res : Int32 × Hp} {ad : Nat → Nat} {fu : Nat} {S : Hp} {o : Nat} {x1 : Int32} (K : Kx E cX6_numberAt RX6 (rmd 1 0 0)) (X : Bx E l yX6_numberAt 4 (some .int) 0 0 ad (QI res)) (h : F_X6_numberAt fu S o x1 = some res) : J E 0 0 0 [(0, vR (some o)), (1, vI x1)] [] S ad := by
  refine j_iconst (v := (0 : Int32)) K dX6_numberAt_0 (by decide) ?_
  refine j_istore_n (lv' := [(2, vI (0 : Int32)), (0, vR (some o)), (1, vI x1)]) K dX6_numberAt_1 rfl X.2.2.1 (by decide) rfl ?_
  refine j_aload_n K dX6_numberAt_2 rfl 1 rfl ?_
  obtain ⟨v3, e3, h⟩ := bd h
  refine fgX6_22 K dX6_numberAt_3 e3 ?_
  refine j_iload_n K dX6_numberAt_6 rfl 2 rfl ?_
  obtain ⟨v7, S7, e7, h⟩ := bd2 h
  refine j_cI (st := []) K (r_SN (vs := [vR v3, vI x1]) (n := 2) (host := RX7) K (c_X7_at e7) dX6_numberAt_7 (List.mem_of_getElem? (i := 4) rfl) z227 z1 z228 ⟨zd_X7_at, rfl, rfl, rfl, ⟨Nat.le_of_ble_eq_true rfl, Nat.le_of_ble_eq_true rfl⟩, Nat.le_of_ble_eq_true rfl, Nat.le_of_ble_eq_true rfl, Nat.le_of_ble_eq_true rfl⟩) rfl ?_
  refine j_istore_n (lv' := [(3, vI v7), (2, vI (0 : Int32)), (0, vR (some o)), (1, vI x1)]) K dX6_numberAt_10 rfl X.2.2.1 (by decide) rfl ?_
  exact j_sub [2, 3, 1, 0] rfl (w_X6_numberAt_11 K X _ _ _ _ h)
theorem c_X6_numberAt {l : Launch} {fu : Nat} {S : Hp} {o : Nat} {x1 : Int32} {res : Int32 × Hp} (h : F_X6_numberAt fu S o x1 = some res) : Ct l yX6_numberAt cX6_numberAt 4 (some .int) (rmd 1 0 0) 0 0 [vR (some o), vI x1] S (QI res) :=
  z_entry (by decide +kernel) (Nat.le_of_ble_eq_true rfl) (fun E ad K X => w_X6_numberAt K X h)

theorem dX3_write_0 : decode cX3_write 0 = .ok (.aload_n 0, 1) ∧ 0 + 1 = 1 := ⟨by decide +kernel, rfl⟩
theorem dX3_write_1 : decode cX3_write 1 = .ok (.getfield 22, 3) ∧ 1 + 3 = 4 := ⟨by decide +kernel, rfl⟩
theorem dX3_write_4 : decode cX3_write 4 = .ok (.aload_n 0, 1) ∧ 4 + 1 = 5 := ⟨by decide +kernel, rfl⟩
theorem dX3_write_5 : decode cX3_write 5 = .ok (.getfield 18, 3) ∧ 5 + 3 = 8 := ⟨by decide +kernel, rfl⟩
theorem dX3_write_8 : decode cX3_write 8 = .ok (.arraylength, 1) ∧ 8 + 1 = 9 := ⟨by decide +kernel, rfl⟩
theorem dX3_write_9 : decode cX3_write 9 = .ok (.if_icmp .ge 25, 3) ∧ 9 + 3 = 12 ∧ ((9 : Nat) : Int) + (25) = ((34 : Nat) : Int) := ⟨by decide +kernel, rfl, by decide⟩
theorem dX3_write_12 : decode cX3_write 12 = .ok (.aload_n 0, 1) ∧ 12 + 1 = 13 := ⟨by decide +kernel, rfl⟩
theorem dX3_write_13 : decode cX3_write 13 = .ok (.getfield 18, 3) ∧ 13 + 3 = 16 := ⟨by decide +kernel, rfl⟩
theorem dX3_write_16 : decode cX3_write 16 = .ok (.aload_n 0, 1) ∧ 16 + 1 = 17 := ⟨by decide +kernel, rfl⟩
theorem dX3_write_17 : decode cX3_write 17 = .ok (.getfield 22, 3) ∧ 17 + 3 = 20 := ⟨by decide +kernel, rfl⟩
theorem dX3_write_20 : decode cX3_write 20 = .ok (.iload_n 1, 1) ∧ 20 + 1 = 21 := ⟨by decide +kernel, rfl⟩
theorem dX3_write_21 : decode cX3_write 21 = .ok (.invokestatic 62, 3) := by decide +kernel
theorem dX3_write_24 : decode cX3_write 24 = .ok (.aload_n 0, 1) ∧ 24 + 1 = 25 := ⟨by decide +kernel, rfl⟩
theorem dX3_write_25 : decode cX3_write 25 = .ok (.dup, 1) ∧ 25 + 1 = 26 := ⟨by decide +kernel, rfl⟩
theorem dX3_write_26 : decode cX3_write 26 = .ok (.getfield 22, 3) ∧ 26 + 3 = 29 := ⟨by decide +kernel, rfl⟩
theorem dX3_write_29 : decode cX3_write 29 = .ok (.iconst 1, 1) ∧ 29 + 1 = 30 := ⟨by decide +kernel, rfl⟩
theorem dX3_write_30 : decode cX3_write 30 = .ok (.iadd, 1) ∧ 30 + 1 = 31 := ⟨by decide +kernel, rfl⟩
theorem dX3_write_31 : decode cX3_write 31 = .ok (.putfield 22, 3) ∧ 31 + 3 = 34 := ⟨by decide +kernel, rfl⟩
theorem dX3_write_34 : decode cX3_write 34 = .ok (.return_, 1) := by decide +kernel
def B_X3_write_34 (o : Nat) (S : Hp) : Option (Hp) :=
  some S
set_option maxRecDepth 100000 in
set_option maxHeartbeats 4000000 in
theorem w_X3_write_34 {E : Cx} {l : Launch} {res : Hp} {ad : Nat → Nat} {o : Nat} {S : Hp} (K : Kx E cX3_write RX3 (rmd 1 0 0)) (X : Bx E l yX3_write 2 none 0 0 ad (QV res)) (h : B_X3_write_34 o S = some res) : J E 0 0 34 [] [] S ad := by
  exact j_vret K X dX3_write_34 h
def F_X3_write (S : Hp) (o : Nat) (x1 : Int32) : Option (Hp) :=
  (gI S (some o) 2 4).bind fun v1 =>
  (gR S (some o) 2 3).bind fun v5 =>
  (aL S v5 7).bind fun v8 =>
  if v8 ≤ v1 then
    B_X3_write_34 o S
  else
    (gR S (some o) 2 3).bind fun v13 =>
    (gI S (some o) 2 4).bind fun v17 =>
    (F_X7_store S v13 v17 x1).bind fun S21 =>
    (gI S21 (some o) 2 4).bind fun v26 =>
    (pI S21 (some o) 2 4 (v26 + (1 : Int32))).bind fun S31 =>
    B_X3_write_34 o S31
set_option maxRecDepth 100000 in
set_option maxHeartbeats 4000000 in
theorem w_X3_write {E : Cx} {l : Launch} {res : Hp} {ad : Nat → Nat} {S : Hp} {o : Nat} {x1 : Int32} (K : Kx E cX3_write RX3 (rmd 1 0 0)) (X : Bx E l yX3_write 2 none 0 0 ad (QV res)) (h : F_X3_write S o x1 = some res) : J E 0 0 0 [(0, vR (some o)), (1, vI x1)] [] S ad := by
  refine j_aload_n K dX3_write_0 rfl 0 rfl ?_
  obtain ⟨v1, e1, h⟩ := bd h
  refine fgX3_22 K dX3_write_1 e1 ?_
  refine j_aload_n K dX3_write_4 rfl 0 rfl ?_
  obtain ⟨v5, e5, h⟩ := bd h
  refine fgX3_18 K dX3_write_5 e5 ?_
  obtain ⟨v8, e8, h⟩ := bd h
  refine j_aL K (by decide) dX3_write_8 e8 ?_
  refine j_icmp_ge K dX3_write_9 (fun c9 => ?_) (fun c9 => ?_)
  · replace h := it c9 h
    exact j_sub [] rfl (w_X3_write_34 K X h)
  · replace h := ie c9 h
    refine j_aload_n K dX3_write_12 rfl 0 rfl ?_
    obtain ⟨v13, e13, h⟩ := bd h
    refine fgX3_18 K dX3_write_13 e13 ?_
    refine j_aload_n K dX3_write_16 rfl 0 rfl ?_
    obtain ⟨v17, e17, h⟩ := bd h
    refine fgX3_22 K dX3_write_17 e17 ?_
    refine j_iload_n K dX3_write_20 rfl 1 rfl ?_
    obtain ⟨S21, e21, h⟩ := bd h
    refine j_cV (st := []) K (r_SN (vs := [vR v13, vI v17, vI x1]) (n := 3) (host := RX7) K (c_X7_store e21) dX3_write_21 (List.mem_of_getElem? (i := 6) rfl) z216 z1 z217 ⟨zd_X7_store, rfl, rfl, rfl, ⟨Nat.le_of_ble_eq_true rfl, Nat.le_of_ble_eq_true rfl⟩, Nat.le_of_ble_eq_true rfl, Nat.le_of_ble_eq_true rfl, Nat.le_of_ble_eq_true rfl⟩) rfl ?_
    refine j_aload_n K dX3_write_24 rfl 0 rfl ?_
    refine j_dup K dX3_write_25 rfl ?_
    obtain ⟨v26, e26, h⟩ := bd h
    refine fgX3_22 K dX3_write_26 e26 ?_
    refine j_iconst (v := (1 : Int32)) K dX3_write_29 (by decide) ?_
    refine j_iadd K dX3_write_30 ?_
    obtain ⟨S31, e31, h⟩ := bd h
    refine fpX3_22 K dX3_write_31 e31 ?_
    exact j_sub [] rfl (w_X3_write_34 K X h)
theorem c_X3_write {l : Launch} {S : Hp} {o : Nat} {x1 : Int32} {res : Hp} (h : F_X3_write S o x1 = some res) : Ct l yX3_write cX3_write 2 none (rmd 1 0 0) 0 0 [vR (some o), vI x1] S (QV res) :=
  z_entry (by decide +kernel) (Nat.le_of_ble_eq_true rfl) (fun E ad K X => w_X3_write K X h)

theorem dX5_isName_0 : decode cX5_isName 0 = .ok (.iload_n 0, 1) ∧ 0 + 1 = 1 := ⟨by decide +kernel, rfl⟩
theorem dX5_isName_1 : decode cX5_isName 1 = .ok (.bipush 16, 2) ∧ 1 + 2 = 3 := ⟨by decide +kernel, rfl⟩
theorem dX5_isName_3 : decode cX5_isName 3 = .ok (.if_icmp .lt 13, 3) ∧ 3 + 3 = 6 ∧ ((3 : Nat) : Int) + (13) = ((16 : Nat) : Int) := ⟨by decide +kernel, rfl, by decide⟩
theorem dX5_isName_6 : decode cX5_isName 6 = .ok (.iload_n 0, 1) ∧ 6 + 1 = 7 := ⟨by decide +kernel, rfl⟩
theorem dX5_isName_7 : decode cX5_isName 7 = .ok (.bipush 21, 2) ∧ 7 + 2 = 9 := ⟨by decide +kernel, rfl⟩
theorem dX5_isName_9 : decode cX5_isName 9 = .ok (.if_icmp .gt 7, 3) ∧ 9 + 3 = 12 ∧ ((9 : Nat) : Int) + (7) = ((16 : Nat) : Int) := ⟨by decide +kernel, rfl, by decide⟩
theorem dX5_isName_12 : decode cX5_isName 12 = .ok (.iconst 1, 1) ∧ 12 + 1 = 13 := ⟨by decide +kernel, rfl⟩
theorem dX5_isName_13 : decode cX5_isName 13 = .ok (.goto 4, 3) ∧ ((13 : Nat) : Int) + (4) = ((17 : Nat) : Int) := ⟨by decide +kernel, by decide⟩
theorem dX5_isName_16 : decode cX5_isName 16 = .ok (.iconst 0, 1) ∧ 16 + 1 = 17 := ⟨by decide +kernel, rfl⟩
theorem dX5_isName_17 : decode cX5_isName 17 = .ok (.ireturn, 1) := by decide +kernel
def B_X5_isName_17 (S : Hp) (s0 : Int32) : Option (Int32 × Hp) :=
  zb s0 S
set_option maxRecDepth 100000 in
set_option maxHeartbeats 4000000 in
theorem w_X5_isName_17 {E : Cx} {l : Launch} {res : Int32 × Hp} {ad : Nat → Nat} {S : Hp} {s0 : Int32} (K : Kx E cX5_isName RX5 (rmd 0 0 0)) (X : Bx E l yX5_isName 1 (some .boolean) 0 0 ad (QI res)) (h : B_X5_isName_17 S s0 = some res) : J E 0 0 17 [] [vI s0] S ad := by
  exact j_zret K X dX5_isName_17 h
def B_X5_isName_16 (S : Hp) : Option (Int32 × Hp) :=
  B_X5_isName_17 S (0 : Int32)
set_option maxRecDepth 100000 in
set_option maxHeartbeats 4000000 in
theorem w_X5_isName_16 {E : Cx} {l : Launch} {res : Int32 × Hp} {ad : Nat → Nat} {S : Hp} (K : Kx E cX5_isName RX5 (rmd 0 0 0)) (X : Bx E l yX5_isName 1 (some .boolean) 0 0 ad (QI res)) (h : B_X5_isName_16 S = some res) : J E 0 0 16 [] [] S ad := by
  refine j_iconst (v := (0 : Int32)) K dX5_isName_16 (by decide) ?_
  exact w_X5_isName_17 K X h
def F_X5_isName (S : Hp) (x0 : Int32) : Option (Int32 × Hp) :=
  if x0 < (16 : Int32) then
    B_X5_isName_16 S
  else
    if (21 : Int32) < x0 then
      B_X5_isName_16 S
    else
      B_X5_isName_17 S (1 : Int32)
set_option maxRecDepth 100000 in
set_option maxHeartbeats 4000000 in
theorem w_X5_isName {E : Cx} {l : Launch} {res : Int32 × Hp} {ad : Nat → Nat} {S : Hp} {x0 : Int32} (K : Kx E cX5_isName RX5 (rmd 0 0 0)) (X : Bx E l yX5_isName 1 (some .boolean) 0 0 ad (QI res)) (h : F_X5_isName S x0 = some res) : J E 0 0 0 [(0, vI x0)] [] S ad := by
  refine j_iload_n K dX5_isName_0 rfl 0 rfl ?_
  refine j_bipush (v := (16 : Int32)) K dX5_isName_1 (by decide) ?_
  refine j_icmp_lt K dX5_isName_3 (fun c3 => ?_) (fun c3 => ?_)
  · replace h := it c3 h
    exact j_sub [] rfl (w_X5_isName_16 K X h)
  · replace h := ie c3 h
    refine j_iload_n K dX5_isName_6 rfl 0 rfl ?_
    refine j_bipush (v := (21 : Int32)) K dX5_isName_7 (by decide) ?_
    refine j_icmp_gt K dX5_isName_9 (fun c9 => ?_) (fun c9 => ?_)
    · replace h := it c9 h
      exact j_sub [] rfl (w_X5_isName_16 K X h)
    · replace h := ie c9 h
      refine j_iconst (v := (1 : Int32)) K dX5_isName_12 (by decide) ?_
      refine j_goto K dX5_isName_13 ?_
      exact j_sub [] rfl (w_X5_isName_17 K X h)
theorem c_X5_isName {l : Launch} {S : Hp} {x0 : Int32} {res : Int32 × Hp} (h : F_X5_isName S x0 = some res) : Ct l yX5_isName cX5_isName 1 (some .boolean) (rmd 0 0 0) 0 0 [vI x0] S (QI res) :=
  z_entry (by decide +kernel) (Nat.le_of_ble_eq_true rfl) (fun E ad K X => w_X5_isName K X h)

theorem dX3_plainOne_0 : decode cX3_plainOne 0 = .ok (.aload_n 0, 1) ∧ 0 + 1 = 1 := ⟨by decide +kernel, rfl⟩
theorem dX3_plainOne_1 : decode cX3_plainOne 1 = .ok (.getfield 28, 3) ∧ 1 + 3 = 4 := ⟨by decide +kernel, rfl⟩
theorem dX3_plainOne_4 : decode cX3_plainOne 4 = .ok (.getfield 85, 3) ∧ 4 + 3 = 7 := ⟨by decide +kernel, rfl⟩
theorem dX3_plainOne_7 : decode cX3_plainOne 7 = .ok (.aload_n 0, 1) ∧ 7 + 1 = 8 := ⟨by decide +kernel, rfl⟩
theorem dX3_plainOne_8 : decode cX3_plainOne 8 = .ok (.getfield 15, 3) ∧ 8 + 3 = 11 := ⟨by decide +kernel, rfl⟩
theorem dX3_plainOne_11 : decode cX3_plainOne 11 = .ok (.invokestatic 88, 3) := by decide +kernel
theorem dX3_plainOne_14 : decode cX3_plainOne 14 = .ok (.istore_n 2, 1) ∧ 14 + 1 = 15 := ⟨by decide +kernel, rfl⟩
theorem dX3_plainOne_15 : decode cX3_plainOne 15 = .ok (.aload_n 0, 1) ∧ 15 + 1 = 16 := ⟨by decide +kernel, rfl⟩
theorem dX3_plainOne_16 : decode cX3_plainOne 16 = .ok (.iconst 2, 1) ∧ 16 + 1 = 17 := ⟨by decide +kernel, rfl⟩
theorem dX3_plainOne_17 : decode cX3_plainOne 17 = .ok (.invokevirtual 43, 3) := by decide +kernel
theorem dX3_plainOne_20 : decode cX3_plainOne 20 = .ok (.ifCond .eq 31, 3) ∧ 20 + 3 = 23 ∧ ((20 : Nat) : Int) + (31) = ((51 : Nat) : Int) := ⟨by decide +kernel, rfl, by decide⟩
theorem dX3_plainOne_23 : decode cX3_plainOne 23 = .ok (.aload_n 0, 1) ∧ 23 + 1 = 24 := ⟨by decide +kernel, rfl⟩
theorem dX3_plainOne_24 : decode cX3_plainOne 24 = .ok (.aload_n 0, 1) ∧ 24 + 1 = 25 := ⟨by decide +kernel, rfl⟩
theorem dX3_plainOne_25 : decode cX3_plainOne 25 = .ok (.getfield 28, 3) ∧ 25 + 3 = 28 := ⟨by decide +kernel, rfl⟩
theorem dX3_plainOne_28 : decode cX3_plainOne 28 = .ok (.aload_n 0, 1) ∧ 28 + 1 = 29 := ⟨by decide +kernel, rfl⟩
theorem dX3_plainOne_29 : decode cX3_plainOne 29 = .ok (.getfield 15, 3) ∧ 29 + 3 = 32 := ⟨by decide +kernel, rfl⟩
theorem dX3_plainOne_32 : decode cX3_plainOne 32 = .ok (.invokevirtual 101, 3) := by decide +kernel
theorem dX3_plainOne_35 : decode cX3_plainOne 35 = .ok (.invokevirtual 69, 3) := by decide +kernel
theorem dX3_plainOne_38 : decode cX3_plainOne 38 = .ok (.aload_n 0, 1) ∧ 38 + 1 = 39 := ⟨by decide +kernel, rfl⟩
theorem dX3_plainOne_39 : decode cX3_plainOne 39 = .ok (.dup, 1) ∧ 39 + 1 = 40 := ⟨by decide +kernel, rfl⟩
theorem dX3_plainOne_40 : decode cX3_plainOne 40 = .ok (.getfield 15, 3) ∧ 40 + 3 = 43 := ⟨by decide +kernel, rfl⟩
theorem dX3_plainOne_43 : decode cX3_plainOne 43 = .ok (.iconst 1, 1) ∧ 43 + 1 = 44 := ⟨by decide +kernel, rfl⟩
theorem dX3_plainOne_44 : decode cX3_plainOne 44 = .ok (.iadd, 1) ∧ 44 + 1 = 45 := ⟨by decide +kernel, rfl⟩
theorem dX3_plainOne_45 : decode cX3_plainOne 45 = .ok (.putfield 15, 3) ∧ 45 + 3 = 48 := ⟨by decide +kernel, rfl⟩
theorem dX3_plainOne_48 : decode cX3_plainOne 48 = .ok (.goto 81, 3) ∧ ((48 : Nat) : Int) + (81) = ((129 : Nat) : Int) := ⟨by decide +kernel, by decide⟩
theorem dX3_plainOne_51 : decode cX3_plainOne 51 = .ok (.aload_n 0, 1) ∧ 51 + 1 = 52 := ⟨by decide +kernel, rfl⟩
theorem dX3_plainOne_52 : decode cX3_plainOne 52 = .ok (.getfield 9, 3) ∧ 52 + 3 = 55 := ⟨by decide +kernel, rfl⟩
theorem dX3_plainOne_55 : decode cX3_plainOne 55 = .ok (.iconst (-1), 1) ∧ 55 + 1 = 56 := ⟨by decide +kernel, rfl⟩
theorem dX3_plainOne_56 : decode cX3_plainOne 56 = .ok (.if_icmp .ne 29, 3) ∧ 56 + 3 = 59 ∧ ((56 : Nat) : Int) + (29) = ((85 : Nat) : Int) := ⟨by decide +kernel, rfl, by decide⟩
theorem dX3_plainOne_59 : decode cX3_plainOne 59 = .ok (.iload_n 2, 1) ∧ 59 + 1 = 60 := ⟨by decide +kernel, rfl⟩
theorem dX3_plainOne_60 : decode cX3_plainOne 60 = .ok (.invokestatic 105, 3) := by decide +kernel
theorem dX3_plainOne_63 : decode cX3_plainOne 63 = .ok (.ifCond .eq 22, 3) ∧ 63 + 3 = 66 ∧ ((63 : Nat) : Int) + (22) = ((85 : Nat) : Int) := ⟨by decide +kernel, rfl, by decide⟩
theorem dX3_plainOne_66 : decode cX3_plainOne 66 = .ok (.aload_n 0, 1) ∧ 66 + 1 = 67 := ⟨by decide +kernel, rfl⟩
theorem dX3_plainOne_67 : decode cX3_plainOne 67 = .ok (.iload_n 2, 1) ∧ 67 + 1 = 68 := ⟨by decide +kernel, rfl⟩
theorem dX3_plainOne_68 : decode cX3_plainOne 68 = .ok (.ineg, 1) ∧ 68 + 1 = 69 := ⟨by decide +kernel, rfl⟩
theorem dX3_plainOne_69 : decode cX3_plainOne 69 = .ok (.invokevirtual 69, 3) := by decide +kernel
theorem dX3_plainOne_72 : decode cX3_plainOne 72 = .ok (.aload_n 0, 1) ∧ 72 + 1 = 73 := ⟨by decide +kernel, rfl⟩
theorem dX3_plainOne_73 : decode cX3_plainOne 73 = .ok (.dup, 1) ∧ 73 + 1 = 74 := ⟨by decide +kernel, rfl⟩
theorem dX3_plainOne_74 : decode cX3_plainOne 74 = .ok (.getfield 15, 3) ∧ 74 + 3 = 77 := ⟨by decide +kernel, rfl⟩
theorem dX3_plainOne_77 : decode cX3_plainOne 77 = .ok (.iconst 1, 1) ∧ 77 + 1 = 78 := ⟨by decide +kernel, rfl⟩
theorem dX3_plainOne_78 : decode cX3_plainOne 78 = .ok (.iadd, 1) ∧ 78 + 1 = 79 := ⟨by decide +kernel, rfl⟩
theorem dX3_plainOne_79 : decode cX3_plainOne 79 = .ok (.putfield 15, 3) ∧ 79 + 3 = 82 := ⟨by decide +kernel, rfl⟩
theorem dX3_plainOne_82 : decode cX3_plainOne 82 = .ok (.goto 47, 3) ∧ ((82 : Nat) : Int) + (47) = ((129 : Nat) : Int) := ⟨by decide +kernel, by decide⟩
theorem dX3_plainOne_85 : decode cX3_plainOne 85 = .ok (.aload_n 0, 1) ∧ 85 + 1 = 86 := ⟨by decide +kernel, rfl⟩
theorem dX3_plainOne_86 : decode cX3_plainOne 86 = .ok (.bipush 40, 2) ∧ 86 + 2 = 88 := ⟨by decide +kernel, rfl⟩
theorem dX3_plainOne_88 : decode cX3_plainOne 88 = .ok (.invokevirtual 43, 3) := by decide +kernel
theorem dX3_plainOne_91 : decode cX3_plainOne 91 = .ok (.ifCond .eq 34, 3) ∧ 91 + 3 = 94 ∧ ((91 : Nat) : Int) + (34) = ((125 : Nat) : Int) := ⟨by decide +kernel, rfl, by decide⟩
theorem dX3_plainOne_94 : decode cX3_plainOne 94 = .ok (.iload_n 1, 1) ∧ 94 + 1 = 95 := ⟨by decide +kernel, rfl⟩
theorem dX3_plainOne_95 : decode cX3_plainOne 95 = .ok (.iconst 5, 1) ∧ 95 + 1 = 96 := ⟨by decide +kernel, rfl⟩
theorem dX3_plainOne_96 : decode cX3_plainOne 96 = .ok (.if_icmp .ge 29, 3) ∧ 96 + 3 = 99 ∧ ((96 : Nat) : Int) + (29) = ((125 : Nat) : Int) := ⟨by decide +kernel, rfl, by decide⟩
theorem dX3_plainOne_99 : decode cX3_plainOne 99 = .ok (.aload_n 0, 1) ∧ 99 + 1 = 100 := ⟨by decide +kernel, rfl⟩
theorem dX3_plainOne_100 : decode cX3_plainOne 100 = .ok (.dup, 1) ∧ 100 + 1 = 101 := ⟨by decide +kernel, rfl⟩
theorem dX3_plainOne_101 : decode cX3_plainOne 101 = .ok (.getfield 15, 3) ∧ 101 + 3 = 104 := ⟨by decide +kernel, rfl⟩
theorem dX3_plainOne_104 : decode cX3_plainOne 104 = .ok (.iconst 1, 1) ∧ 104 + 1 = 105 := ⟨by decide +kernel, rfl⟩
theorem dX3_plainOne_105 : decode cX3_plainOne 105 = .ok (.iadd, 1) ∧ 105 + 1 = 106 := ⟨by decide +kernel, rfl⟩
theorem dX3_plainOne_106 : decode cX3_plainOne 106 = .ok (.putfield 15, 3) ∧ 106 + 3 = 109 := ⟨by decide +kernel, rfl⟩
theorem dX3_plainOne_109 : decode cX3_plainOne 109 = .ok (.aload_n 0, 1) ∧ 109 + 1 = 110 := ⟨by decide +kernel, rfl⟩
theorem dX3_plainOne_110 : decode cX3_plainOne 110 = .ok (.iload_n 1, 1) ∧ 110 + 1 = 111 := ⟨by decide +kernel, rfl⟩
theorem dX3_plainOne_111 : decode cX3_plainOne 111 = .ok (.iconst 1, 1) ∧ 111 + 1 = 112 := ⟨by decide +kernel, rfl⟩
theorem dX3_plainOne_112 : decode cX3_plainOne 112 = .ok (.iadd, 1) ∧ 112 + 1 = 113 := ⟨by decide +kernel, rfl⟩
theorem dX3_plainOne_113 : decode cX3_plainOne 113 = .ok (.invokevirtual 59, 3) := by decide +kernel
theorem dX3_plainOne_116 : decode cX3_plainOne 116 = .ok (.aload_n 0, 1) ∧ 116 + 1 = 117 := ⟨by decide +kernel, rfl⟩
theorem dX3_plainOne_117 : decode cX3_plainOne 117 = .ok (.bipush 41, 2) ∧ 117 + 2 = 119 := ⟨by decide +kernel, rfl⟩
theorem dX3_plainOne_119 : decode cX3_plainOne 119 = .ok (.invokevirtual 55, 3) := by decide +kernel
theorem dX3_plainOne_122 : decode cX3_plainOne 122 = .ok (.goto 7, 3) ∧ ((122 : Nat) : Int) + (7) = ((129 : Nat) : Int) := ⟨by decide +kernel, by decide⟩
theorem dX3_plainOne_125 : decode cX3_plainOne 125 = .ok (.aload_n 0, 1) ∧ 125 + 1 = 126 := ⟨by decide +kernel, rfl⟩
theorem dX3_plainOne_126 : decode cX3_plainOne 126 = .ok (.invokevirtual 47, 3) := by decide +kernel
theorem dX3_plainOne_129 : decode cX3_plainOne 129 = .ok (.return_, 1) := by decide +kernel
def B_X3_plainOne_129 (rc : Hp → Nat → Int32 → Option Hp) (fu : Nat) (o : Nat) (S : Hp) : Option (Hp) :=
  some S
set_option maxRecDepth 100000 in
set_option maxHeartbeats 4000000 in
theorem w_X3_plainOne_129 {E : Cx} {l : Launch} {res : Hp} {ad : Nat → Nat} {D : Nat} (hD : 12 ≤ D) {rc : Hp → Nat → Int32 → Option Hp} {fu : Nat} {o : Nat} {S : Hp} (K : Kx E cX3_plainOne RX3 (rmd (D + 1) 0 0)) (X : Bx E l yX3_plainOne 3 none 0 0 ad (QV res)) (hrc : ∀ (l : Launch) (S : Hp) (o : Nat) (x : Int32) (S1 : Hp), rc S o x = some S1 → Ct l yX3_or cX3_or 3 none (rmd D 0 0) 0 0 [vR (some o), vI x] S (QV S1)) (h : B_X3_plainOne_129 rc fu o S = some res) : J E 0 0 129 [] [] S ad := by
  exact j_vret K X dX3_plainOne_129 h
def B_X3_plainOne_125 (rc : Hp → Nat → Int32 → Option Hp) (fu : Nat) (o : Nat) (S : Hp) : Option (Hp) :=
  (ob S 2 (some o)).bind fun _ =>
  (F_X3_fail S o).bind fun S126 =>
  B_X3_plainOne_129 rc fu o S126
set_option maxRecDepth 100000 in
set_option maxHeartbeats 4000000 in
theorem w_X3_plainOne_125 {E : Cx} {l : Launch} {res : Hp} {ad : Nat → Nat} {D : Nat} (hD : 12 ≤ D) {rc : Hp → Nat → Int32 → Option Hp} {fu : Nat} {o : Nat} {S : Hp} (K : Kx E cX3_plainOne RX3 (rmd (D + 1) 0 0)) (X : Bx E l yX3_plainOne 3 none 0 0 ad (QV res)) (hrc : ∀ (l : Launch) (S : Hp) (o : Nat) (x : Int32) (S1 : Hp), rc S o x = some S1 → Ct l yX3_or cX3_or 3 none (rmd D 0 0) 0 0 [vR (some o), vI x] S (QV S1)) (h : B_X3_plainOne_125 rc fu o S = some res) : J E 0 0 125 [(0, vR (some o))] [] S ad := by
  refine j_aload_n K dX3_plainOne_125 rfl 0 rfl ?_
  obtain ⟨w126, ew126, h⟩ := bd h
  have ho126 := obS ew126
  obtain ⟨S126, e126, h⟩ := bd h
  refine j_cV (st := []) K (r_V (vs := []) (n := 0) (o := o) K (c_X3_fail e126) ho126 (by decide) rfl dX3_plainOne_126 z284 z286 zs6 z4 z287 ⟨zd_X3_fail, rfl, rfl, rfl, ⟨(by simp only [rmd]; omega), (by simp only [rmd]; omega)⟩, Nat.le_of_ble_eq_true rfl, Nat.le_of_ble_eq_true rfl, Nat.le_of_ble_eq_true rfl⟩) rfl ?_
  exact j_sub [] rfl (w_X3_plainOne_129 hD K X hrc h)
def B_X3_plainOne_85 (rc : Hp → Nat → Int32 → Option Hp) (fu : Nat) (o : Nat) (S : Hp) (x1 : Int32) : Option (Hp) :=
  (ob S 2 (some o)).bind fun _ =>
  b2 (F_X3_isNext S o (40 : Int32)) fun v88 S88 =>
  if v88 = 0 then
    B_X3_plainOne_125 rc fu o S88
  else
    if (5 : Int32) ≤ x1 then
      B_X3_plainOne_125 rc fu o S88
    else
      (gI S88 (some o) 2 2).bind fun v101 =>
      (pI S88 (some o) 2 2 (v101 + (1 : Int32))).bind fun S106 =>
      (ob S106 2 (some o)).bind fun _ =>
      (rc S106 o (x1 + (1 : Int32))).bind fun S113 =>
      (ob S113 2 (some o)).bind fun _ =>
      (F_X3_expect S113 o (41 : Int32)).bind fun S119 =>
      B_X3_plainOne_129 rc fu o S119
set_option maxRecDepth 100000 in
set_option maxHeartbeats 4000000 in
theorem w_X3_plainOne_85 {E : Cx} {l : Launch} {res : Hp} {ad : Nat → Nat} {D : Nat} (hD : 12 ≤ D) {rc : Hp → Nat → Int32 → Option Hp} {fu : Nat} {o : Nat} {S : Hp} {x1 : Int32} (K : Kx E cX3_plainOne RX3 (rmd (D + 1) 0 0)) (X : Bx E l yX3_plainOne 3 none 0 0 ad (QV res)) (hrc : ∀ (l : Launch) (S : Hp) (o : Nat) (x : Int32) (S1 : Hp), rc S o x = some S1 → Ct l yX3_or cX3_or 3 none (rmd D 0 0) 0 0 [vR (some o), vI x] S (QV S1)) (h : B_X3_plainOne_85 rc fu o S x1 = some res) : J E 0 0 85 [(0, vR (some o)), (1, vI x1)] [] S ad := by
  refine j_aload_n K dX3_plainOne_85 rfl 0 rfl ?_
  refine j_bipush (v := (40 : Int32)) K dX3_plainOne_86 (by decide) ?_
  obtain ⟨w88, ew88, h⟩ := bd h
  have ho88 := obS ew88
  obtain ⟨v88, S88, e88, h⟩ := bd2 h
  refine j_cI (st := []) K (r_V (vs := [vI (40 : Int32)]) (n := 1) (o := o) K (c_X3_isNext e88) ho88 (by decide) rfl dX3_plainOne_88 z279 z281 zs5 z4 z282 ⟨zd_X3_isNext, rfl, rfl, rfl, ⟨(by simp only [rmd]; omega), (by simp only [rmd]; omega)⟩, Nat.le_of_ble_eq_true rfl, Nat.le_of_ble_eq_true rfl, Nat.le_of_ble_eq_true rfl⟩) rfl ?_
  refine j_if_eq K dX3_plainOne_91 (fun c91 => ?_) (fun c91 => ?_)
  · replace h := it c91 h
    exact j_sub [0] rfl (w_X3_plainOne_125 hD K X hrc h)
  · replace h := ie c91 h
    refine j_iload_n K dX3_plainOne_94 rfl 1 rfl ?_
    refine j_iconst (v := (5 : Int32)) K dX3_plainOne_95 (by decide) ?_
    refine j_icmp_ge K dX3_plainOne_96 (fun c96 => ?_) (fun c96 => ?_)
    · replace h := it c96 h
      exact j_sub [0] rfl (w_X3_plainOne_125 hD K X hrc h)
    · replace h := ie c96 h
      refine j_aload_n K dX3_plainOne_99 rfl 0 rfl ?_
      refine j_dup K dX3_plainOne_100 rfl ?_
      obtain ⟨v101, e101, h⟩ := bd h
      refine fgX3_15 K dX3_plainOne_101 e101 ?_
      refine j_iconst (v := (1 : Int32)) K dX3_plainOne_104 (by decide) ?_
      refine j_iadd K dX3_plainOne_105 ?_
      obtain ⟨S106, e106, h⟩ := bd h
      refine fpX3_15 K dX3_plainOne_106 e106 ?_
      refine j_aload_n K dX3_plainOne_109 rfl 0 rfl ?_
      refine j_iload_n K dX3_plainOne_110 rfl 1 rfl ?_
      refine j_iconst (v := (1 : Int32)) K dX3_plainOne_111 (by decide) ?_
      refine j_iadd K dX3_plainOne_112 ?_
      obtain ⟨w113, ew113, h⟩ := bd h
      have ho113 := obS ew113
      obtain ⟨S113, e113, h⟩ := bd h
      refine j_cV (st := []) K (r_V (vs := [vI (x1 + (1 : Int32))]) (n := 1) (o := o) K (hrc _ _ _ _ _ e113) ho113 (by decide) rfl dX3_plainOne_113 z288 z290 zs7 z4 z291 ⟨zd_X3_or, rfl, rfl, rfl, ⟨(by simp only [rmd]; omega), (by simp only [rmd]; omega)⟩, Nat.le_of_ble_eq_true rfl, Nat.le_of_ble_eq_true rfl, Nat.le_of_ble_eq_true rfl⟩) rfl ?_
      refine j_aload_n K dX3_plainOne_116 rfl 0 rfl ?_
      refine j_bipush (v := (41 : Int32)) K dX3_plainOne_117 (by decide) ?_
      obtain ⟨w119, ew119, h⟩ := bd h
      have ho119 := obS ew119
      obtain ⟨S119, e119, h⟩ := bd h
      refine j_cV (st := []) K (r_V (vs := [vI (41 : Int32)]) (n := 1) (o := o) K (c_X3_expect e119) ho119 (by decide) rfl dX3_plainOne_119 z275 z277 zs4 z4 z278 ⟨zd_X3_expect, rfl, rfl, rfl, ⟨(by simp only [rmd]; omega), (by simp only [rmd]; omega)⟩, Nat.le_of_ble_eq_true rfl, Nat.le_of_ble_eq_true rfl, Nat.le_of_ble_eq_true rfl⟩) rfl ?_
      refine j_goto K dX3_plainOne_122 ?_
      exact j_sub [] rfl (w_X3_plainOne_129 hD K X hrc h)
def F_X3_plainOne (rc : Hp → Nat → Int32 → Option Hp) (fu : Nat) (S : Hp) (o : Nat) (x1 : Int32) : Option (Hp) :=
  (gR S (some o) 2 0).bind fun v1 =>
  (gR S v1 4 2).bind fun v4 =>
  (gI S (some o) 2 2).bind fun v8 =>
  b2 (F_X7_at S v4 v8) fun v11 S11 =>
  (ob S11 2 (some o)).bind fun _ =>
  b2 (F_X3_isNext S11 o (2 : Int32)) fun v17 S17 =>
  if v17 = 0 then
    (gI S17 (some o) 2 1).bind fun v52 =>
    if v52 = (-1 : Int32) then
      b2 (F_X5_isName S17 v11) fun v60 S60 =>
      if v60 = 0 then
        B_X3_plainOne_85 rc fu o S60 x1
      else
        (ob S60 2 (some o)).bind fun _ =>
        (F_X3_write S60 o (-v11)).bind fun S69 =>
        (gI S69 (some o) 2 2).bind fun v74 =>
        (pI S69 (some o) 2 2 (v74 + (1 : Int32))).bind fun S79 =>
        B_X3_plainOne_129 rc fu o S79
    else
      B_X3_plainOne_85 rc fu o S17 x1
  else
    (gR S17 (some o) 2 0).bind fun v25 =>
    (gI S17 (some o) 2 2).bind fun v29 =>
    (ob S17 4 v25).bind fun o32 =>
    b2 (F_X6_numberAt fu S17 o32 v29) fun v32 S32 =>
    (ob S32 2 (some o)).bind fun _ =>
    (F_X3_write S32 o v32).bind fun S35 =>
    (gI S35 (some o) 2 2).bind fun v40 =>
    (pI S35 (some o) 2 2 (v40 + (1 : Int32))).bind fun S45 =>
    B_X3_plainOne_129 rc fu o S45
set_option maxRecDepth 100000 in
set_option maxHeartbeats 4000000 in
theorem w_X3_plainOne {E : Cx} {l : Launch} {res : Hp} {ad : Nat → Nat} {D : Nat} (hD : 12 ≤ D) {rc : Hp → Nat → Int32 → Option Hp} {fu : Nat} {S : Hp} {o : Nat} {x1 : Int32} (K : Kx E cX3_plainOne RX3 (rmd (D + 1) 0 0)) (X : Bx E l yX3_plainOne 3 none 0 0 ad (QV res)) (hrc : ∀ (l : Launch) (S : Hp) (o : Nat) (x : Int32) (S1 : Hp), rc S o x = some S1 → Ct l yX3_or cX3_or 3 none (rmd D 0 0) 0 0 [vR (some o), vI x] S (QV S1)) (h : F_X3_plainOne rc fu S o x1 = some res) : J E 0 0 0 [(0, vR (some o)), (1, vI x1)] [] S ad := by
  refine j_aload_n K dX3_plainOne_0 rfl 0 rfl ?_
  obtain ⟨v1, e1, h⟩ := bd h
  refine fgX3_28 K dX3_plainOne_1 e1 ?_
  obtain ⟨v4, e4, h⟩ := bd h
  refine fgX3_85 K dX3_plainOne_4 e4 ?_
  refine j_aload_n K dX3_plainOne_7 rfl 0 rfl ?_
  obtain ⟨v8, e8, h⟩ := bd h
  refine fgX3_15 K dX3_plainOne_8 e8 ?_
  obtain ⟨v11, S11, e11, h⟩ := bd2 h
  refine j_cI (st := []) K (r_SN (vs := [vR v4, vI v8]) (n := 2) (host := RX7) K (c_X7_at e11) dX3_plainOne_11 (List.mem_of_getElem? (i := 5) rfl) z227 z1 z228 ⟨zd_X7_at, rfl, rfl, rfl, ⟨(by simp only [rmd]; omega), (by simp only [rmd]; omega)⟩, Nat.le_of_ble_eq_true rfl, Nat.le_of_ble_eq_true rfl, Nat.le_of_ble_eq_true rfl⟩) rfl ?_
  refine j_istore_n (lv' := [(2, vI v11), (0, vR (some o)), (1, vI x1)]) K dX3_plainOne_14 rfl X.2.2.1 (by decide) rfl ?_
  refine j_aload_n K dX3_plainOne_15 rfl 1 rfl ?_
  refine j_iconst (v := (2 : Int32)) K dX3_plainOne_16 (by decide) ?_
  obtain ⟨w17, ew17, h⟩ := bd h
  have ho17 := obS ew17
  obtain ⟨v17, S17, e17, h⟩ := bd2 h
  refine j_cI (st := []) K (r_V (vs := [vI (2 : Int32)]) (n := 1) (o := o) K (c_X3_isNext e17) ho17 (by decide) rfl dX3_plainOne_17 z279 z281 zs5 z4 z282 ⟨zd_X3_isNext, rfl, rfl, rfl, ⟨(by simp only [rmd]; omega), (by simp only [rmd]; omega)⟩, Nat.le_of_ble_eq_true rfl, Nat.le_of_ble_eq_true rfl, Nat.le_of_ble_eq_true rfl⟩) rfl ?_
  refine j_if_eq K dX3_plainOne_20 (fun c20 => ?_) (fun c20 => ?_)
  · replace h := it c20 h
    refine j_aload_n K dX3_plainOne_51 rfl 1 rfl ?_
    obtain ⟨v52, e52, h⟩ := bd h
    refine fgX3_9 K dX3_plainOne_52 e52 ?_
    refine j_iconst (v := (-1 : Int32)) K dX3_plainOne_55 (by decide) ?_
    refine j_icmp_ne K dX3_plainOne_56 (fun c56 => ?_) (fun c56 => ?_)
    · replace h := ie c56 h
      exact j_sub [1, 2] rfl (w_X3_plainOne_85 hD K X hrc h)
    · replace h := it c56 h
      refine j_iload_n K dX3_plainOne_59 rfl 0 rfl ?_
      obtain ⟨v60, S60, e60, h⟩ := bd2 h
      refine j_cI (st := []) K (r_S (vs := [vI v11]) (n := 1) K (c_X5_isName e60) dX3_plainOne_60 z333 z334 z10 z335 ⟨zd_X5_isName, rfl, rfl, rfl, ⟨(by simp only [rmd]; omega), (by simp only [rmd]; omega)⟩, Nat.le_of_ble_eq_true rfl, Nat.le_of_ble_eq_true rfl, Nat.le_of_ble_eq_true rfl⟩) rfl ?_
      refine j_if_eq K dX3_plainOne_63 (fun c63 => ?_) (fun c63 => ?_)
      · replace h := it c63 h
        exact j_sub [1, 2] rfl (w_X3_plainOne_85 hD K X hrc h)
      · replace h := ie c63 h
        refine j_aload_n K dX3_plainOne_66 rfl 1 rfl ?_
        refine j_iload_n K dX3_plainOne_67 rfl 0 rfl ?_
        refine j_ineg K dX3_plainOne_68 ?_
        obtain ⟨w69, ew69, h⟩ := bd h
        have ho69 := obS ew69
        obtain ⟨S69, e69, h⟩ := bd h
        refine j_cV (st := []) K (r_V (vs := [vI (-v11)]) (n := 1) (o := o) K (c_X3_write e69) ho69 (by decide) rfl dX3_plainOne_69 z328 z330 zs16 z4 z331 ⟨zd_X3_write, rfl, rfl, rfl, ⟨(by simp only [rmd]; omega), (by simp only [rmd]; omega)⟩, Nat.le_of_ble_eq_true rfl, Nat.le_of_ble_eq_true rfl, Nat.le_of_ble_eq_true rfl⟩) rfl ?_
        refine j_aload_n K dX3_plainOne_72 rfl 1 rfl ?_
        refine j_dup K dX3_plainOne_73 rfl ?_
        obtain ⟨v74, e74, h⟩ := bd h
        refine fgX3_15 K dX3_plainOne_74 e74 ?_
        refine j_iconst (v := (1 : Int32)) K dX3_plainOne_77 (by decide) ?_
        refine j_iadd K dX3_plainOne_78 ?_
        obtain ⟨S79, e79, h⟩ := bd h
        refine fpX3_15 K dX3_plainOne_79 e79 ?_
        refine j_goto K dX3_plainOne_82 ?_
        exact j_sub [] rfl (w_X3_plainOne_129 hD K X hrc h)
  · replace h := ie c20 h
    refine j_aload_n K dX3_plainOne_23 rfl 1 rfl ?_
    refine j_aload_n K dX3_plainOne_24 rfl 1 rfl ?_
    obtain ⟨v25, e25, h⟩ := bd h
    refine fgX3_28 K dX3_plainOne_25 e25 ?_
    refine j_aload_n K dX3_plainOne_28 rfl 1 rfl ?_
    obtain ⟨v29, e29, h⟩ := bd h
    refine fgX3_15 K dX3_plainOne_29 e29 ?_
    obtain ⟨o32, ew32, hz32⟩ := bd h
    obtain ⟨er32, ho32⟩ := ob_some ew32
    subst er32
    have h := hz32
    obtain ⟨v32, S32, e32, h⟩ := bd2 h
    refine j_cI (st := [vR (some o)]) K (r_V (vs := [vI v29]) (n := 1) (o := o32) K (c_X6_numberAt e32) ho32 (by decide) rfl dX3_plainOne_32 z324 z325 z326 z3 z327 ⟨zd_X6_numberAt, rfl, rfl, rfl, ⟨(by simp only [rmd]; omega), (by simp only [rmd]; omega)⟩, Nat.le_of_ble_eq_true rfl, Nat.le_of_ble_eq_true rfl, Nat.le_of_ble_eq_true rfl⟩) rfl ?_
    obtain ⟨w35, ew35, h⟩ := bd h
    have ho35 := obS ew35
    obtain ⟨S35, e35, h⟩ := bd h
    refine j_cV (st := []) K (r_V (vs := [vI v32]) (n := 1) (o := o) K (c_X3_write e35) ho35 (by decide) rfl dX3_plainOne_35 z328 z330 zs16 z4 z331 ⟨zd_X3_write, rfl, rfl, rfl, ⟨(by simp only [rmd]; omega), (by simp only [rmd]; omega)⟩, Nat.le_of_ble_eq_true rfl, Nat.le_of_ble_eq_true rfl, Nat.le_of_ble_eq_true rfl⟩) rfl ?_
    refine j_aload_n K dX3_plainOne_38 rfl 1 rfl ?_
    refine j_dup K dX3_plainOne_39 rfl ?_
    obtain ⟨v40, e40, h⟩ := bd h
    refine fgX3_15 K dX3_plainOne_40 e40 ?_
    refine j_iconst (v := (1 : Int32)) K dX3_plainOne_43 (by decide) ?_
    refine j_iadd K dX3_plainOne_44 ?_
    obtain ⟨S45, e45, h⟩ := bd h
    refine fpX3_15 K dX3_plainOne_45 e45 ?_
    refine j_goto K dX3_plainOne_48 ?_
    exact j_sub [] rfl (w_X3_plainOne_129 hD K X hrc h)
theorem c_X3_plainOne {fu D : Nat} (hD : 12 ≤ D) {rc : Hp → Nat → Int32 → Option Hp} (hrc : ∀ (l : Launch) (S : Hp) (o : Nat) (x : Int32) (S1 : Hp), rc S o x = some S1 → Ct l yX3_or cX3_or 3 none (rmd D 0 0) 0 0 [vR (some o), vI x] S (QV S1)) {l : Launch} {S : Hp} {o : Nat} {x1 : Int32} {res : Hp} (h : F_X3_plainOne rc fu S o x1 = some res) : Ct l yX3_plainOne cX3_plainOne 3 none (rmd (D + 1) 0 0) 0 0 [vR (some o), vI x1] S (QV res) :=
  z_entry (by decide +kernel) (Nat.le_of_ble_eq_true rfl) (fun E ad K X => w_X3_plainOne hD K X hrc h)

theorem dX3_one_0 : decode cX3_one 0 = .ok (.aload_n 0, 1) ∧ 0 + 1 = 1 := ⟨by decide +kernel, rfl⟩
theorem dX3_one_1 : decode cX3_one 1 = .ok (.bipush 45, 2) ∧ 1 + 2 = 3 := ⟨by decide +kernel, rfl⟩
theorem dX3_one_3 : decode cX3_one 3 = .ok (.iload_n 1, 1) ∧ 3 + 1 = 4 := ⟨by decide +kernel, rfl⟩
theorem dX3_one_4 : decode cX3_one 4 = .ok (.invokevirtual 75, 3) := by decide +kernel
theorem dX3_one_7 : decode cX3_one 7 = .ok (.istore_n 2, 1) ∧ 7 + 1 = 8 := ⟨by decide +kernel, rfl⟩
theorem dX3_one_8 : decode cX3_one 8 = .ok (.aload_n 0, 1) ∧ 8 + 1 = 9 := ⟨by decide +kernel, rfl⟩
theorem dX3_one_9 : decode cX3_one 9 = .ok (.iload_n 1, 1) ∧ 9 + 1 = 10 := ⟨by decide +kernel, rfl⟩
theorem dX3_one_10 : decode cX3_one 10 = .ok (.iload_n 2, 1) ∧ 10 + 1 = 11 := ⟨by decide +kernel, rfl⟩
theorem dX3_one_11 : decode cX3_one 11 = .ok (.iadd, 1) ∧ 11 + 1 = 12 := ⟨by decide +kernel, rfl⟩
theorem dX3_one_12 : decode cX3_one 12 = .ok (.invokevirtual 98, 3) := by decide +kernel
theorem dX3_one_15 : decode cX3_one 15 = .ok (.iconst 0, 1) ∧ 15 + 1 = 16 := ⟨by decide +kernel, rfl⟩
theorem dX3_one_16 : decode cX3_one 16 = .ok (.istore_n 3, 1) ∧ 16 + 1 = 17 := ⟨by decide +kernel, rfl⟩
theorem dX3_one_17 : decode cX3_one 17 = .ok (.iload_n 3, 1) ∧ 17 + 1 = 18 := ⟨by decide +kernel, rfl⟩
theorem dX3_one_18 : decode cX3_one 18 = .ok (.iload_n 2, 1) ∧ 18 + 1 = 19 := ⟨by decide +kernel, rfl⟩
theorem dX3_one_19 : decode cX3_one 19 = .ok (.if_icmp .ge 15, 3) ∧ 19 + 3 = 22 ∧ ((19 : Nat) : Int) + (15) = ((34 : Nat) : Int) := ⟨by decide +kernel, rfl, by decide⟩
theorem dX3_one_22 : decode cX3_one 22 = .ok (.aload_n 0, 1) ∧ 22 + 1 = 23 := ⟨by decide +kernel, rfl⟩
theorem dX3_one_23 : decode cX3_one 23 = .ok (.bipush (-3), 2) ∧ 23 + 2 = 25 := ⟨by decide +kernel, rfl⟩
theorem dX3_one_25 : decode cX3_one 25 = .ok (.invokevirtual 69, 3) := by decide +kernel
theorem dX3_one_28 : decode cX3_one 28 = .ok (.iinc 3 1, 3) ∧ 28 + 3 = 31 := ⟨by decide +kernel, rfl⟩
theorem dX3_one_31 : decode cX3_one 31 = .ok (.goto (-14), 3) ∧ ((31 : Nat) : Int) + (-14) = ((17 : Nat) : Int) := ⟨by decide +kernel, by decide⟩
theorem dX3_one_34 : decode cX3_one 34 = .ok (.return_, 1) := by decide +kernel
def L_X3_one_17 (rc : Hp → Nat → Int32 → Option Hp) (k17 : Hp → Int32 → Option (Hp)) (fu : Nat) (o : Nat) (x2 : Int32) (S : Hp) (x3 : Int32) : Option (Hp) :=
  if x2 ≤ x3 then
    some S
  else
    (ob S 2 (some o)).bind fun _ =>
    (F_X3_write S o (-3 : Int32)).bind fun S25 =>
    k17 S25 (x3 + (1 : Int32))
set_option maxRecDepth 100000 in
set_option maxHeartbeats 4000000 in
theorem wl_X3_one_17 {E : Cx} {l : Launch} {res : Hp} {ad : Nat → Nat} {D : Nat} (hD : 12 ≤ D) {rc : Hp → Nat → Int32 → Option Hp} {k17 : Hp → Int32 → Option (Hp)} {fu : Nat} {o : Nat} {S : Hp} {x2 : Int32} {x3 : Int32} (K : Kx E cX3_one RX3 (rmd (D + 2) 0 0)) (X : Bx E l yX3_one 4 none 0 0 ad (QV res)) (hrc : ∀ (l : Launch) (S : Hp) (o : Nat) (x : Int32) (S1 : Hp), rc S o x = some S1 → Ct l yX3_or cX3_or 3 none (rmd D 0 0) 0 0 [vR (some o), vI x] S (QV S1)) (hk17 : ∀ (S : Hp) (x3 : Int32), k17 S x3 = some res → J E 0 0 17 [(0, vR (some o)), (2, vI x2), (3, vI x3)] [] S ad) (h : L_X3_one_17 rc k17 fu o x2 S x3 = some res) : J E 0 0 17 [(0, vR (some o)), (2, vI x2), (3, vI x3)] [] S ad := by
  refine j_iload_n K dX3_one_17 rfl 2 rfl ?_
  refine j_iload_n K dX3_one_18 rfl 1 rfl ?_
  refine j_icmp_ge K dX3_one_19 (fun c19 => ?_) (fun c19 => ?_)
  · replace h := it c19 h
    exact j_vret K X dX3_one_34 h
  · replace h := ie c19 h
    refine j_aload_n K dX3_one_22 rfl 0 rfl ?_
    refine j_bipush (v := (-3 : Int32)) K dX3_one_23 (by decide) ?_
    obtain ⟨w25, ew25, h⟩ := bd h
    have ho25 := obS ew25
    obtain ⟨S25, e25, h⟩ := bd h
    refine j_cV (st := []) K (r_V (vs := [vI (-3 : Int32)]) (n := 1) (o := o) K (c_X3_write e25) ho25 (by decide) rfl dX3_one_25 z328 z330 zs16 z4 z331 ⟨zd_X3_write, rfl, rfl, rfl, ⟨(by simp only [rmd]; omega), (by simp only [rmd]; omega)⟩, Nat.le_of_ble_eq_true rfl, Nat.le_of_ble_eq_true rfl, Nat.le_of_ble_eq_true rfl⟩) rfl ?_
    refine j_iinc (q := 2) (v := (x3 + (1 : Int32))) (lv' := [(3, vI (x3 + (1 : Int32))), (0, vR (some o)), (2, vI x2)]) K dX3_one_28 rfl rfl X.2.2.1 (by decide) rfl ?_
    refine j_goto K dX3_one_31 ?_
    exact j_sub [1, 2, 0] rfl (hk17 _ _ h)
def B_X3_one_17 (rc : Hp → Nat → Int32 → Option Hp) (fu : Nat) (o : Nat) (x2 : Int32) : Nat → Hp → Int32 → Option (Hp)
  | 0 => fun _ _ => none
  | n + 1 => L_X3_one_17 rc (B_X3_one_17 rc fu o x2 n) fu o x2
theorem w_X3_one_17 {E : Cx} {l : Launch} {res : Hp} {ad : Nat → Nat} {D : Nat} (hD : 12 ≤ D) {rc : Hp → Nat → Int32 → Option Hp} {fu : Nat} {o : Nat} {x2 : Int32} (K : Kx E cX3_one RX3 (rmd (D + 2) 0 0)) (X : Bx E l yX3_one 4 none 0 0 ad (QV res)) (hrc : ∀ (l : Launch) (S : Hp) (o : Nat) (x : Int32) (S1 : Hp), rc S o x = some S1 → Ct l yX3_or cX3_or 3 none (rmd D 0 0) 0 0 [vR (some o), vI x] S (QV S1)) : ∀ (n : Nat) (S : Hp) (x3 : Int32), B_X3_one_17 rc fu o x2 n S x3 = some res → J E 0 0 17 [(0, vR (some o)), (2, vI x2), (3, vI x3)] [] S ad := by
  intro n
  induction n with
  | zero =>
    intro S x3 h
    cases h
  | succ n ih =>
    intro S x3 h
    exact wl_X3_one_17 hD K X hrc ih h
def F_X3_one (rc : Hp → Nat → Int32 → Option Hp) (fu : Nat) (S : Hp) (o : Nat) (x1 : Int32) : Option (Hp) :=
  (ob S 2 (some o)).bind fun _ =>
  b2 (F_X3_openAll fu S o (45 : Int32) x1) fun v4 S4 =>
  (ob S4 2 (some o)).bind fun _ =>
  (F_X3_plainOne rc fu S4 o (x1 + v4)).bind fun S12 =>
  B_X3_one_17 rc fu o v4 fu S12 (0 : Int32)
set_option maxRecDepth 100000 in
set_option maxHeartbeats 4000000 in
theorem w_X3_one {E : Cx} {l : Launch} {res : Hp} {ad : Nat → Nat} {D : Nat} (hD : 12 ≤ D) {rc : Hp → Nat → Int32 → Option Hp} {fu : Nat} {S : Hp} {o : Nat} {x1 : Int32} (K : Kx E cX3_one RX3 (rmd (D + 2) 0 0)) (X : Bx E l yX3_one 4 none 0 0 ad (QV res)) (hrc : ∀ (l : Launch) (S : Hp) (o : Nat) (x : Int32) (S1 : Hp), rc S o x = some S1 → Ct l yX3_or cX3_or 3 none (rmd D 0 0) 0 0 [vR (some o), vI x] S (QV S1)) (h : F_X3_one rc fu S o x1 = some res) : J E 0 0 0 [(0, vR (some o)), (1, vI x1)] [] S ad := by
  refine j_aload_n K dX3_one_0 rfl 0 rfl ?_
  refine j_bipush (v := (45 : Int32)) K dX3_one_1 (by decide) ?_
  refine j_iload_n K dX3_one_3 rfl 1 rfl ?_
  obtain ⟨w4, ew4, h⟩ := bd h
  have ho4 := obS ew4
  obtain ⟨v4, S4, e4, h⟩ := bd2 h
  refine j_cI (st := []) K (r_V (vs := [vI (45 : Int32), vI x1]) (n := 2) (o := o) K (c_X3_openAll e4) ho4 (by decide) rfl dX3_one_4 z300 z302 zs10 z4 z303 ⟨zd_X3_openAll, rfl, rfl, rfl, ⟨(by simp only [rmd]; omega), (by simp only [rmd]; omega)⟩, Nat.le_of_ble_eq_true rfl, Nat.le_of_ble_eq_true rfl, Nat.le_of_ble_eq_true rfl⟩) rfl ?_
  refine j_istore_n (lv' := [(2, vI v4), (0, vR (some o)), (1, vI x1)]) K dX3_one_7 rfl X.2.2.1 (by decide) rfl ?_
  refine j_aload_n K dX3_one_8 rfl 1 rfl ?_
  refine j_iload_n K dX3_one_9 rfl 2 rfl ?_
  refine j_iload_n K dX3_one_10 rfl 0 rfl ?_
  refine j_iadd K dX3_one_11 ?_
  obtain ⟨w12, ew12, h⟩ := bd h
  have ho12 := obS ew12
  obtain ⟨S12, e12, h⟩ := bd h
  refine j_cV (st := []) K (r_V (vs := [vI (x1 + v4)]) (n := 1) (o := o) K (c_X3_plainOne hD hrc e12) ho12 (by decide) rfl dX3_one_12 z320 z322 zs15 z4 z323 ⟨zd_X3_plainOne, rfl, rfl, rfl, ⟨(by simp only [rmd]; omega), (by simp only [rmd]; omega)⟩, Nat.le_of_ble_eq_true rfl, Nat.le_of_ble_eq_true rfl, Nat.le_of_ble_eq_true rfl⟩) rfl ?_
  refine j_iconst (v := (0 : Int32)) K dX3_one_15 (by decide) ?_
  refine j_istore_n (lv' := [(3, vI (0 : Int32)), (2, vI v4), (0, vR (some o)), (1, vI x1)]) K dX3_one_16 rfl X.2.2.1 (by decide) rfl ?_
  exact j_sub [2, 1, 0] rfl (w_X3_one_17 hD K X hrc _ _ _ h)
theorem c_X3_one {fu D : Nat} (hD : 12 ≤ D) {rc : Hp → Nat → Int32 → Option Hp} (hrc : ∀ (l : Launch) (S : Hp) (o : Nat) (x : Int32) (S1 : Hp), rc S o x = some S1 → Ct l yX3_or cX3_or 3 none (rmd D 0 0) 0 0 [vR (some o), vI x] S (QV S1)) {l : Launch} {S : Hp} {o : Nat} {x1 : Int32} {res : Hp} (h : F_X3_one rc fu S o x1 = some res) : Ct l yX3_one cX3_one 4 none (rmd (D + 2) 0 0) 0 0 [vR (some o), vI x1] S (QV res) :=
  z_entry (by decide +kernel) (Nat.le_of_ble_eq_true rfl) (fun E ad K X => w_X3_one hD K X hrc h)

theorem dX3_term_0 : decode cX3_term 0 = .ok (.aload_n 0, 1) ∧ 0 + 1 = 1 := ⟨by decide +kernel, rfl⟩
theorem dX3_term_1 : decode cX3_term 1 = .ok (.iload_n 1, 1) ∧ 1 + 1 = 2 := ⟨by decide +kernel, rfl⟩
theorem dX3_term_2 : decode cX3_term 2 = .ok (.invokevirtual 95, 3) := by decide +kernel
theorem dX3_term_5 : decode cX3_term 5 = .ok (.iconst 0, 1) ∧ 5 + 1 = 6 := ⟨by decide +kernel, rfl⟩
theorem dX3_term_6 : decode cX3_term 6 = .ok (.istore_n 2, 1) ∧ 6 + 1 = 7 := ⟨by decide +kernel, rfl⟩
theorem dX3_term_7 : decode cX3_term 7 = .ok (.iload_n 2, 1) ∧ 7 + 1 = 8 := ⟨by decide +kernel, rfl⟩
theorem dX3_term_8 : decode cX3_term 8 = .ok (.sipush 160, 3) ∧ 8 + 3 = 11 := ⟨by decide +kernel, rfl⟩
theorem dX3_term_11 : decode cX3_term 11 = .ok (.if_icmp .ge 39, 3) ∧ 11 + 3 = 14 ∧ ((11 : Nat) : Int) + (39) = ((50 : Nat) : Int) := ⟨by decide +kernel, rfl, by decide⟩
theorem dX3_term_14 : decode cX3_term 14 = .ok (.aload_n 0, 1) ∧ 14 + 1 = 15 := ⟨by decide +kernel, rfl⟩
theorem dX3_term_15 : decode cX3_term 15 = .ok (.bipush 42, 2) ∧ 15 + 2 = 17 := ⟨by decide +kernel, rfl⟩
theorem dX3_term_17 : decode cX3_term 17 = .ok (.invokevirtual 43, 3) := by decide +kernel
theorem dX3_term_20 : decode cX3_term 20 = .ok (.ifCond .eq 30, 3) ∧ 20 + 3 = 23 ∧ ((20 : Nat) : Int) + (30) = ((50 : Nat) : Int) := ⟨by decide +kernel, rfl, by decide⟩
theorem dX3_term_23 : decode cX3_term 23 = .ok (.aload_n 0, 1) ∧ 23 + 1 = 24 := ⟨by decide +kernel, rfl⟩
theorem dX3_term_24 : decode cX3_term 24 = .ok (.dup, 1) ∧ 24 + 1 = 25 := ⟨by decide +kernel, rfl⟩
theorem dX3_term_25 : decode cX3_term 25 = .ok (.getfield 15, 3) ∧ 25 + 3 = 28 := ⟨by decide +kernel, rfl⟩
theorem dX3_term_28 : decode cX3_term 28 = .ok (.iconst 1, 1) ∧ 28 + 1 = 29 := ⟨by decide +kernel, rfl⟩
theorem dX3_term_29 : decode cX3_term 29 = .ok (.iadd, 1) ∧ 29 + 1 = 30 := ⟨by decide +kernel, rfl⟩
theorem dX3_term_30 : decode cX3_term 30 = .ok (.putfield 15, 3) ∧ 30 + 3 = 33 := ⟨by decide +kernel, rfl⟩
theorem dX3_term_33 : decode cX3_term 33 = .ok (.aload_n 0, 1) ∧ 33 + 1 = 34 := ⟨by decide +kernel, rfl⟩
theorem dX3_term_34 : decode cX3_term 34 = .ok (.iload_n 1, 1) ∧ 34 + 1 = 35 := ⟨by decide +kernel, rfl⟩
theorem dX3_term_35 : decode cX3_term 35 = .ok (.invokevirtual 95, 3) := by decide +kernel
theorem dX3_term_38 : decode cX3_term 38 = .ok (.aload_n 0, 1) ∧ 38 + 1 = 39 := ⟨by decide +kernel, rfl⟩
theorem dX3_term_39 : decode cX3_term 39 = .ok (.bipush (-42), 2) ∧ 39 + 2 = 41 := ⟨by decide +kernel, rfl⟩
theorem dX3_term_41 : decode cX3_term 41 = .ok (.invokevirtual 69, 3) := by decide +kernel
theorem dX3_term_44 : decode cX3_term 44 = .ok (.iinc 2 1, 3) ∧ 44 + 3 = 47 := ⟨by decide +kernel, rfl⟩
theorem dX3_term_47 : decode cX3_term 47 = .ok (.goto (-40), 3) ∧ ((47 : Nat) : Int) + (-40) = ((7 : Nat) : Int) := ⟨by decide +kernel, by decide⟩
theorem dX3_term_50 : decode cX3_term 50 = .ok (.return_, 1) := by decide +kernel
def B_X3_term_50 (rc : Hp → Nat → Int32 → Option Hp) (fu : Nat) (o : Nat) (S : Hp) : Option (Hp) :=
  some S
set_option maxRecDepth 100000 in
set_option maxHeartbeats 4000000 in
theorem w_X3_term_50 {E : Cx} {l : Launch} {res : Hp} {ad : Nat → Nat} {D : Nat} (hD : 12 ≤ D) {rc : Hp → Nat → Int32 → Option Hp} {fu : Nat} {o : Nat} {S : Hp} (K : Kx E cX3_term RX3 (rmd (D + 3) 0 0)) (X : Bx E l yX3_term 3 none 0 0 ad (QV res)) (hrc : ∀ (l : Launch) (S : Hp) (o : Nat) (x : Int32) (S1 : Hp), rc S o x = some S1 → Ct l yX3_or cX3_or 3 none (rmd D 0 0) 0 0 [vR (some o), vI x] S (QV S1)) (h : B_X3_term_50 rc fu o S = some res) : J E 0 0 50 [] [] S ad := by
  exact j_vret K X dX3_term_50 h
def L_X3_term_7 (rc : Hp → Nat → Int32 → Option Hp) (k7 : Hp → Int32 → Option (Hp)) (fu : Nat) (o : Nat) (x1 : Int32) (S : Hp) (x2 : Int32) : Option (Hp) :=
  if (160 : Int32) ≤ x2 then
    B_X3_term_50 rc fu o S
  else
    (ob S 2 (some o)).bind fun _ =>
    b2 (F_X3_isNext S o (42 : Int32)) fun v17 S17 =>
    if v17 = 0 then
      B_X3_term_50 rc fu o S17
    else
      (gI S17 (some o) 2 2).bind fun v25 =>
      (pI S17 (some o) 2 2 (v25 + (1 : Int32))).bind fun S30 =>
      (ob S30 2 (some o)).bind fun _ =>
      (F_X3_one rc fu S30 o x1).bind fun S35 =>
      (ob S35 2 (some o)).bind fun _ =>
      (F_X3_write S35 o (-42 : Int32)).bind fun S41 =>
      k7 S41 (x2 + (1 : Int32))
set_option maxRecDepth 100000 in
set_option maxHeartbeats 4000000 in
theorem wl_X3_term_7 {E : Cx} {l : Launch} {res : Hp} {ad : Nat → Nat} {D : Nat} (hD : 12 ≤ D) {rc : Hp → Nat → Int32 → Option Hp} {k7 : Hp → Int32 → Option (Hp)} {fu : Nat} {o : Nat} {S : Hp} {x1 : Int32} {x2 : Int32} (K : Kx E cX3_term RX3 (rmd (D + 3) 0 0)) (X : Bx E l yX3_term 3 none 0 0 ad (QV res)) (hrc : ∀ (l : Launch) (S : Hp) (o : Nat) (x : Int32) (S1 : Hp), rc S o x = some S1 → Ct l yX3_or cX3_or 3 none (rmd D 0 0) 0 0 [vR (some o), vI x] S (QV S1)) (hk7 : ∀ (S : Hp) (x2 : Int32), k7 S x2 = some res → J E 0 0 7 [(0, vR (some o)), (1, vI x1), (2, vI x2)] [] S ad) (h : L_X3_term_7 rc k7 fu o x1 S x2 = some res) : J E 0 0 7 [(0, vR (some o)), (1, vI x1), (2, vI x2)] [] S ad := by
  refine j_iload_n K dX3_term_7 rfl 2 rfl ?_
  refine j_sipush (v := (160 : Int32)) K dX3_term_8 (by decide) ?_
  refine j_icmp_ge K dX3_term_11 (fun c11 => ?_) (fun c11 => ?_)
  · replace h := it c11 h
    exact j_sub [] rfl (w_X3_term_50 hD K X hrc h)
  · replace h := ie c11 h
    refine j_aload_n K dX3_term_14 rfl 0 rfl ?_
    refine j_bipush (v := (42 : Int32)) K dX3_term_15 (by decide) ?_
    obtain ⟨w17, ew17, h⟩ := bd h
    have ho17 := obS ew17
    obtain ⟨v17, S17, e17, h⟩ := bd2 h
    refine j_cI (st := []) K (r_V (vs := [vI (42 : Int32)]) (n := 1) (o := o) K (c_X3_isNext e17) ho17 (by decide) rfl dX3_term_17 z279 z281 zs5 z4 z282 ⟨zd_X3_isNext, rfl, rfl, rfl, ⟨(by simp only [rmd]; omega), (by simp only [rmd]; omega)⟩, Nat.le_of_ble_eq_true rfl, Nat.le_of_ble_eq_true rfl, Nat.le_of_ble_eq_true rfl⟩) rfl ?_
    refine j_if_eq K dX3_term_20 (fun c20 => ?_) (fun c20 => ?_)
    · replace h := it c20 h
      exact j_sub [] rfl (w_X3_term_50 hD K X hrc h)
    · replace h := ie c20 h
      refine j_aload_n K dX3_term_23 rfl 0 rfl ?_
      refine j_dup K dX3_term_24 rfl ?_
      obtain ⟨v25, e25, h⟩ := bd h
      refine fgX3_15 K dX3_term_25 e25 ?_
      refine j_iconst (v := (1 : Int32)) K dX3_term_28 (by decide) ?_
      refine j_iadd K dX3_term_29 ?_
      obtain ⟨S30, e30, h⟩ := bd h
      refine fpX3_15 K dX3_term_30 e30 ?_
      refine j_aload_n K dX3_term_33 rfl 0 rfl ?_
      refine j_iload_n K dX3_term_34 rfl 1 rfl ?_
      obtain ⟨w35, ew35, h⟩ := bd h
      have ho35 := obS ew35
      obtain ⟨S35, e35, h⟩ := bd h
      refine j_cV (st := []) K (r_V (vs := [vI x1]) (n := 1) (o := o) K (c_X3_one hD hrc e35) ho35 (by decide) rfl dX3_term_35 z316 z318 zs14 z4 z319 ⟨zd_X3_one, rfl, rfl, rfl, ⟨(by simp only [rmd]; omega), (by simp only [rmd]; omega)⟩, Nat.le_of_ble_eq_true rfl, Nat.le_of_ble_eq_true rfl, Nat.le_of_ble_eq_true rfl⟩) rfl ?_
      refine j_aload_n K dX3_term_38 rfl 0 rfl ?_
      refine j_bipush (v := (-42 : Int32)) K dX3_term_39 (by decide) ?_
      obtain ⟨w41, ew41, h⟩ := bd h
      have ho41 := obS ew41
      obtain ⟨S41, e41, h⟩ := bd h
      refine j_cV (st := []) K (r_V (vs := [vI (-42 : Int32)]) (n := 1) (o := o) K (c_X3_write e41) ho41 (by decide) rfl dX3_term_41 z328 z330 zs16 z4 z331 ⟨zd_X3_write, rfl, rfl, rfl, ⟨(by simp only [rmd]; omega), (by simp only [rmd]; omega)⟩, Nat.le_of_ble_eq_true rfl, Nat.le_of_ble_eq_true rfl, Nat.le_of_ble_eq_true rfl⟩) rfl ?_
      refine j_iinc (q := 2) (v := (x2 + (1 : Int32))) (lv' := [(2, vI (x2 + (1 : Int32))), (0, vR (some o)), (1, vI x1)]) K dX3_term_44 rfl rfl X.2.2.1 (by decide) rfl ?_
      refine j_goto K dX3_term_47 ?_
      exact j_sub [1, 2, 0] rfl (hk7 _ _ h)
def B_X3_term_7 (rc : Hp → Nat → Int32 → Option Hp) (fu : Nat) (o : Nat) (x1 : Int32) : Nat → Hp → Int32 → Option (Hp)
  | 0 => fun _ _ => none
  | n + 1 => L_X3_term_7 rc (B_X3_term_7 rc fu o x1 n) fu o x1
theorem w_X3_term_7 {E : Cx} {l : Launch} {res : Hp} {ad : Nat → Nat} {D : Nat} (hD : 12 ≤ D) {rc : Hp → Nat → Int32 → Option Hp} {fu : Nat} {o : Nat} {x1 : Int32} (K : Kx E cX3_term RX3 (rmd (D + 3) 0 0)) (X : Bx E l yX3_term 3 none 0 0 ad (QV res)) (hrc : ∀ (l : Launch) (S : Hp) (o : Nat) (x : Int32) (S1 : Hp), rc S o x = some S1 → Ct l yX3_or cX3_or 3 none (rmd D 0 0) 0 0 [vR (some o), vI x] S (QV S1)) : ∀ (n : Nat) (S : Hp) (x2 : Int32), B_X3_term_7 rc fu o x1 n S x2 = some res → J E 0 0 7 [(0, vR (some o)), (1, vI x1), (2, vI x2)] [] S ad := by
  intro n
  induction n with
  | zero =>
    intro S x2 h
    cases h
  | succ n ih =>
    intro S x2 h
    exact wl_X3_term_7 hD K X hrc ih h
def F_X3_term (rc : Hp → Nat → Int32 → Option Hp) (fu : Nat) (S : Hp) (o : Nat) (x1 : Int32) : Option (Hp) :=
  (ob S 2 (some o)).bind fun _ =>
  (F_X3_one rc fu S o x1).bind fun S2 =>
  B_X3_term_7 rc fu o x1 fu S2 (0 : Int32)
set_option maxRecDepth 100000 in
set_option maxHeartbeats 4000000 in
theorem w_X3_term {E : Cx} {l : Launch} {res : Hp} {ad : Nat → Nat} {D : Nat} (hD : 12 ≤ D) {rc : Hp → Nat → Int32 → Option Hp} {fu : Nat} {S : Hp} {o : Nat} {x1 : Int32} (K : Kx E cX3_term RX3 (rmd (D + 3) 0 0)) (X : Bx E l yX3_term 3 none 0 0 ad (QV res)) (hrc : ∀ (l : Launch) (S : Hp) (o : Nat) (x : Int32) (S1 : Hp), rc S o x = some S1 → Ct l yX3_or cX3_or 3 none (rmd D 0 0) 0 0 [vR (some o), vI x] S (QV S1)) (h : F_X3_term rc fu S o x1 = some res) : J E 0 0 0 [(0, vR (some o)), (1, vI x1)] [] S ad := by
  refine j_aload_n K dX3_term_0 rfl 0 rfl ?_
  refine j_iload_n K dX3_term_1 rfl 1 rfl ?_
  obtain ⟨w2, ew2, h⟩ := bd h
  have ho2 := obS ew2
  obtain ⟨S2, e2, h⟩ := bd h
  refine j_cV (st := []) K (r_V (vs := [vI x1]) (n := 1) (o := o) K (c_X3_one hD hrc e2) ho2 (by decide) rfl dX3_term_2 z316 z318 zs14 z4 z319 ⟨zd_X3_one, rfl, rfl, rfl, ⟨(by simp only [rmd]; omega), (by simp only [rmd]; omega)⟩, Nat.le_of_ble_eq_true rfl, Nat.le_of_ble_eq_true rfl, Nat.le_of_ble_eq_true rfl⟩) rfl ?_
  refine j_iconst (v := (0 : Int32)) K dX3_term_5 (by decide) ?_
  refine j_istore_n (lv' := [(2, vI (0 : Int32)), (0, vR (some o)), (1, vI x1)]) K dX3_term_6 rfl X.2.2.1 (by decide) rfl ?_
  exact j_sub [1, 2, 0] rfl (w_X3_term_7 hD K X hrc _ _ _ h)
theorem c_X3_term {fu D : Nat} (hD : 12 ≤ D) {rc : Hp → Nat → Int32 → Option Hp} (hrc : ∀ (l : Launch) (S : Hp) (o : Nat) (x : Int32) (S1 : Hp), rc S o x = some S1 → Ct l yX3_or cX3_or 3 none (rmd D 0 0) 0 0 [vR (some o), vI x] S (QV S1)) {l : Launch} {S : Hp} {o : Nat} {x1 : Int32} {res : Hp} (h : F_X3_term rc fu S o x1 = some res) : Ct l yX3_term cX3_term 3 none (rmd (D + 3) 0 0) 0 0 [vR (some o), vI x1] S (QV res) :=
  z_entry (by decide +kernel) (Nat.le_of_ble_eq_true rfl) (fun E ad K X => w_X3_term hD K X hrc h)

theorem dX3_sum_0 : decode cX3_sum 0 = .ok (.aload_n 0, 1) ∧ 0 + 1 = 1 := ⟨by decide +kernel, rfl⟩
theorem dX3_sum_1 : decode cX3_sum 1 = .ok (.iload_n 1, 1) ∧ 1 + 1 = 2 := ⟨by decide +kernel, rfl⟩
theorem dX3_sum_2 : decode cX3_sum 2 = .ok (.invokevirtual 92, 3) := by decide +kernel
theorem dX3_sum_5 : decode cX3_sum 5 = .ok (.iconst 0, 1) ∧ 5 + 1 = 6 := ⟨by decide +kernel, rfl⟩
theorem dX3_sum_6 : decode cX3_sum 6 = .ok (.istore_n 2, 1) ∧ 6 + 1 = 7 := ⟨by decide +kernel, rfl⟩
theorem dX3_sum_7 : decode cX3_sum 7 = .ok (.iload_n 2, 1) ∧ 7 + 1 = 8 := ⟨by decide +kernel, rfl⟩
theorem dX3_sum_8 : decode cX3_sum 8 = .ok (.sipush 160, 3) ∧ 8 + 3 = 11 := ⟨by decide +kernel, rfl⟩
theorem dX3_sum_11 : decode cX3_sum 11 = .ok (.if_icmp .ge 63, 3) ∧ 11 + 3 = 14 ∧ ((11 : Nat) : Int) + (63) = ((74 : Nat) : Int) := ⟨by decide +kernel, rfl, by decide⟩
theorem dX3_sum_14 : decode cX3_sum 14 = .ok (.aload_n 0, 1) ∧ 14 + 1 = 15 := ⟨by decide +kernel, rfl⟩
theorem dX3_sum_15 : decode cX3_sum 15 = .ok (.bipush 43, 2) ∧ 15 + 2 = 17 := ⟨by decide +kernel, rfl⟩
theorem dX3_sum_17 : decode cX3_sum 17 = .ok (.invokevirtual 43, 3) := by decide +kernel
theorem dX3_sum_20 : decode cX3_sum 20 = .ok (.ifCond .ne 12, 3) ∧ 20 + 3 = 23 ∧ ((20 : Nat) : Int) + (12) = ((32 : Nat) : Int) := ⟨by decide +kernel, rfl, by decide⟩
theorem dX3_sum_23 : decode cX3_sum 23 = .ok (.aload_n 0, 1) ∧ 23 + 1 = 24 := ⟨by decide +kernel, rfl⟩
theorem dX3_sum_24 : decode cX3_sum 24 = .ok (.bipush 45, 2) ∧ 24 + 2 = 26 := ⟨by decide +kernel, rfl⟩
theorem dX3_sum_26 : decode cX3_sum 26 = .ok (.invokevirtual 43, 3) := by decide +kernel
theorem dX3_sum_29 : decode cX3_sum 29 = .ok (.ifCond .eq 45, 3) ∧ 29 + 3 = 32 ∧ ((29 : Nat) : Int) + (45) = ((74 : Nat) : Int) := ⟨by decide +kernel, rfl, by decide⟩
theorem dX3_sum_32 : decode cX3_sum 32 = .ok (.aload_n 0, 1) ∧ 32 + 1 = 33 := ⟨by decide +kernel, rfl⟩
theorem dX3_sum_33 : decode cX3_sum 33 = .ok (.getfield 28, 3) ∧ 33 + 3 = 36 := ⟨by decide +kernel, rfl⟩
theorem dX3_sum_36 : decode cX3_sum 36 = .ok (.getfield 85, 3) ∧ 36 + 3 = 39 := ⟨by decide +kernel, rfl⟩
theorem dX3_sum_39 : decode cX3_sum 39 = .ok (.aload_n 0, 1) ∧ 39 + 1 = 40 := ⟨by decide +kernel, rfl⟩
theorem dX3_sum_40 : decode cX3_sum 40 = .ok (.getfield 15, 3) ∧ 40 + 3 = 43 := ⟨by decide +kernel, rfl⟩
theorem dX3_sum_43 : decode cX3_sum 43 = .ok (.invokestatic 88, 3) := by decide +kernel
theorem dX3_sum_46 : decode cX3_sum 46 = .ok (.istore_n 3, 1) ∧ 46 + 1 = 47 := ⟨by decide +kernel, rfl⟩
theorem dX3_sum_47 : decode cX3_sum 47 = .ok (.aload_n 0, 1) ∧ 47 + 1 = 48 := ⟨by decide +kernel, rfl⟩
theorem dX3_sum_48 : decode cX3_sum 48 = .ok (.dup, 1) ∧ 48 + 1 = 49 := ⟨by decide +kernel, rfl⟩
theorem dX3_sum_49 : decode cX3_sum 49 = .ok (.getfield 15, 3) ∧ 49 + 3 = 52 := ⟨by decide +kernel, rfl⟩
theorem dX3_sum_52 : decode cX3_sum 52 = .ok (.iconst 1, 1) ∧ 52 + 1 = 53 := ⟨by decide +kernel, rfl⟩
theorem dX3_sum_53 : decode cX3_sum 53 = .ok (.iadd, 1) ∧ 53 + 1 = 54 := ⟨by decide +kernel, rfl⟩
theorem dX3_sum_54 : decode cX3_sum 54 = .ok (.putfield 15, 3) ∧ 54 + 3 = 57 := ⟨by decide +kernel, rfl⟩
theorem dX3_sum_57 : decode cX3_sum 57 = .ok (.aload_n 0, 1) ∧ 57 + 1 = 58 := ⟨by decide +kernel, rfl⟩
theorem dX3_sum_58 : decode cX3_sum 58 = .ok (.iload_n 1, 1) ∧ 58 + 1 = 59 := ⟨by decide +kernel, rfl⟩
theorem dX3_sum_59 : decode cX3_sum 59 = .ok (.invokevirtual 92, 3) := by decide +kernel
theorem dX3_sum_62 : decode cX3_sum 62 = .ok (.aload_n 0, 1) ∧ 62 + 1 = 63 := ⟨by decide +kernel, rfl⟩
theorem dX3_sum_63 : decode cX3_sum 63 = .ok (.iload_n 3, 1) ∧ 63 + 1 = 64 := ⟨by decide +kernel, rfl⟩
theorem dX3_sum_64 : decode cX3_sum 64 = .ok (.ineg, 1) ∧ 64 + 1 = 65 := ⟨by decide +kernel, rfl⟩
theorem dX3_sum_65 : decode cX3_sum 65 = .ok (.invokevirtual 69, 3) := by decide +kernel
theorem dX3_sum_68 : decode cX3_sum 68 = .ok (.iinc 2 1, 3) ∧ 68 + 3 = 71 := ⟨by decide +kernel, rfl⟩
theorem dX3_sum_71 : decode cX3_sum 71 = .ok (.goto (-64), 3) ∧ ((71 : Nat) : Int) + (-64) = ((7 : Nat) : Int) := ⟨by decide +kernel, by decide⟩
theorem dX3_sum_74 : decode cX3_sum 74 = .ok (.return_, 1) := by decide +kernel
def B_X3_sum_74 (rc : Hp → Nat → Int32 → Option Hp) (fu : Nat) (o : Nat) (S : Hp) : Option (Hp) :=
  some S
set_option maxRecDepth 100000 in
set_option maxHeartbeats 4000000 in
theorem w_X3_sum_74 {E : Cx} {l : Launch} {res : Hp} {ad : Nat → Nat} {D : Nat} (hD : 12 ≤ D) {rc : Hp → Nat → Int32 → Option Hp} {fu : Nat} {o : Nat} {S : Hp} (K : Kx E cX3_sum RX3 (rmd (D + 4) 0 0)) (X : Bx E l yX3_sum 4 none 0 0 ad (QV res)) (hrc : ∀ (l : Launch) (S : Hp) (o : Nat) (x : Int32) (S1 : Hp), rc S o x = some S1 → Ct l yX3_or cX3_or 3 none (rmd D 0 0) 0 0 [vR (some o), vI x] S (QV S1)) (h : B_X3_sum_74 rc fu o S = some res) : J E 0 0 74 [] [] S ad := by
  exact j_vret K X dX3_sum_74 h
def B_X3_sum_32 (rc : Hp → Nat → Int32 → Option Hp) (k7 : Hp → Int32 → Option (Hp)) (fu : Nat) (o : Nat) (S : Hp) (x1 : Int32) (x2 : Int32) : Option (Hp) :=
  (gR S (some o) 2 0).bind fun v33 =>
  (gR S v33 4 2).bind fun v36 =>
  (gI S (some o) 2 2).bind fun v40 =>
  b2 (F_X7_at S v36 v40) fun v43 S43 =>
  (gI S43 (some o) 2 2).bind fun v49 =>
  (pI S43 (some o) 2 2 (v49 + (1 : Int32))).bind fun S54 =>
  (ob S54 2 (some o)).bind fun _ =>
  (F_X3_term rc fu S54 o x1).bind fun S59 =>
  (ob S59 2 (some o)).bind fun _ =>
  (F_X3_write S59 o (-v43)).bind fun S65 =>
  k7 S65 (x2 + (1 : Int32))
set_option maxRecDepth 100000 in
set_option maxHeartbeats 4000000 in
theorem w_X3_sum_32 {E : Cx} {l : Launch} {res : Hp} {ad : Nat → Nat} {D : Nat} (hD : 12 ≤ D) {rc : Hp → Nat → Int32 → Option Hp} {k7 : Hp → Int32 → Option (Hp)} {fu : Nat} {o : Nat} {S : Hp} {x1 : Int32} {x2 : Int32} (K : Kx E cX3_sum RX3 (rmd (D + 4) 0 0)) (X : Bx E l yX3_sum 4 none 0 0 ad (QV res)) (hrc : ∀ (l : Launch) (S : Hp) (o : Nat) (x : Int32) (S1 : Hp), rc S o x = some S1 → Ct l yX3_or cX3_or 3 none (rmd D 0 0) 0 0 [vR (some o), vI x] S (QV S1)) (hk7 : ∀ (S : Hp) (x2 : Int32), k7 S x2 = some res → J E 0 0 7 [(0, vR (some o)), (1, vI x1), (2, vI x2)] [] S ad) (h : B_X3_sum_32 rc k7 fu o S x1 x2 = some res) : J E 0 0 32 [(0, vR (some o)), (1, vI x1), (2, vI x2)] [] S ad := by
  refine j_aload_n K dX3_sum_32 rfl 0 rfl ?_
  obtain ⟨v33, e33, h⟩ := bd h
  refine fgX3_28 K dX3_sum_33 e33 ?_
  obtain ⟨v36, e36, h⟩ := bd h
  refine fgX3_85 K dX3_sum_36 e36 ?_
  refine j_aload_n K dX3_sum_39 rfl 0 rfl ?_
  obtain ⟨v40, e40, h⟩ := bd h
  refine fgX3_15 K dX3_sum_40 e40 ?_
  obtain ⟨v43, S43, e43, h⟩ := bd2 h
  refine j_cI (st := []) K (r_SN (vs := [vR v36, vI v40]) (n := 2) (host := RX7) K (c_X7_at e43) dX3_sum_43 (List.mem_of_getElem? (i := 5) rfl) z227 z1 z228 ⟨zd_X7_at, rfl, rfl, rfl, ⟨(by simp only [rmd]; omega), (by simp only [rmd]; omega)⟩, Nat.le_of_ble_eq_true rfl, Nat.le_of_ble_eq_true rfl, Nat.le_of_ble_eq_true rfl⟩) rfl ?_
  refine j_istore_n (lv' := [(3, vI v43), (0, vR (some o)), (1, vI x1), (2, vI x2)]) K dX3_sum_46 rfl X.2.2.1 (by decide) rfl ?_
  refine j_aload_n K dX3_sum_47 rfl 1 rfl ?_
  refine j_dup K dX3_sum_48 rfl ?_
  obtain ⟨v49, e49, h⟩ := bd h
  refine fgX3_15 K dX3_sum_49 e49 ?_
  refine j_iconst (v := (1 : Int32)) K dX3_sum_52 (by decide) ?_
  refine j_iadd K dX3_sum_53 ?_
  obtain ⟨S54, e54, h⟩ := bd h
  refine fpX3_15 K dX3_sum_54 e54 ?_
  refine j_aload_n K dX3_sum_57 rfl 1 rfl ?_
  refine j_iload_n K dX3_sum_58 rfl 2 rfl ?_
  obtain ⟨w59, ew59, h⟩ := bd h
  have ho59 := obS ew59
  obtain ⟨S59, e59, h⟩ := bd h
  refine j_cV (st := []) K (r_V (vs := [vI x1]) (n := 1) (o := o) K (c_X3_term hD hrc e59) ho59 (by decide) rfl dX3_sum_59 z312 z314 zs13 z4 z315 ⟨zd_X3_term, rfl, rfl, rfl, ⟨(by simp only [rmd]; omega), (by simp only [rmd]; omega)⟩, Nat.le_of_ble_eq_true rfl, Nat.le_of_ble_eq_true rfl, Nat.le_of_ble_eq_true rfl⟩) rfl ?_
  refine j_aload_n K dX3_sum_62 rfl 1 rfl ?_
  refine j_iload_n K dX3_sum_63 rfl 0 rfl ?_
  refine j_ineg K dX3_sum_64 ?_
  obtain ⟨w65, ew65, h⟩ := bd h
  have ho65 := obS ew65
  obtain ⟨S65, e65, h⟩ := bd h
  refine j_cV (st := []) K (r_V (vs := [vI (-v43)]) (n := 1) (o := o) K (c_X3_write e65) ho65 (by decide) rfl dX3_sum_65 z328 z330 zs16 z4 z331 ⟨zd_X3_write, rfl, rfl, rfl, ⟨(by simp only [rmd]; omega), (by simp only [rmd]; omega)⟩, Nat.le_of_ble_eq_true rfl, Nat.le_of_ble_eq_true rfl, Nat.le_of_ble_eq_true rfl⟩) rfl ?_
  refine j_iinc (q := 3) (v := (x2 + (1 : Int32))) (lv' := [(2, vI (x2 + (1 : Int32))), (3, vI v43), (0, vR (some o)), (1, vI x1)]) K dX3_sum_68 rfl rfl X.2.2.1 (by decide) rfl ?_
  refine j_goto K dX3_sum_71 ?_
  exact j_sub [2, 3, 0] rfl (hk7 _ _ h)
def L_X3_sum_7 (rc : Hp → Nat → Int32 → Option Hp) (k7 : Hp → Int32 → Option (Hp)) (fu : Nat) (o : Nat) (x1 : Int32) (S : Hp) (x2 : Int32) : Option (Hp) :=
  if (160 : Int32) ≤ x2 then
    B_X3_sum_74 rc fu o S
  else
    (ob S 2 (some o)).bind fun _ =>
    b2 (F_X3_isNext S o (43 : Int32)) fun v17 S17 =>
    if v17 = 0 then
      (ob S17 2 (some o)).bind fun _ =>
      b2 (F_X3_isNext S17 o (45 : Int32)) fun v26 S26 =>
      if v26 = 0 then
        B_X3_sum_74 rc fu o S26
      else
        B_X3_sum_32 rc k7 fu o S26 x1 x2
    else
      B_X3_sum_32 rc k7 fu o S17 x1 x2
set_option maxRecDepth 100000 in
set_option maxHeartbeats 4000000 in
theorem wl_X3_sum_7 {E : Cx} {l : Launch} {res : Hp} {ad : Nat → Nat} {D : Nat} (hD : 12 ≤ D) {rc : Hp → Nat → Int32 → Option Hp} {k7 : Hp → Int32 → Option (Hp)} {fu : Nat} {o : Nat} {S : Hp} {x1 : Int32} {x2 : Int32} (K : Kx E cX3_sum RX3 (rmd (D + 4) 0 0)) (X : Bx E l yX3_sum 4 none 0 0 ad (QV res)) (hrc : ∀ (l : Launch) (S : Hp) (o : Nat) (x : Int32) (S1 : Hp), rc S o x = some S1 → Ct l yX3_or cX3_or 3 none (rmd D 0 0) 0 0 [vR (some o), vI x] S (QV S1)) (hk7 : ∀ (S : Hp) (x2 : Int32), k7 S x2 = some res → J E 0 0 7 [(0, vR (some o)), (1, vI x1), (2, vI x2)] [] S ad) (h : L_X3_sum_7 rc k7 fu o x1 S x2 = some res) : J E 0 0 7 [(0, vR (some o)), (1, vI x1), (2, vI x2)] [] S ad := by
  refine j_iload_n K dX3_sum_7 rfl 2 rfl ?_
  refine j_sipush (v := (160 : Int32)) K dX3_sum_8 (by decide) ?_
  refine j_icmp_ge K dX3_sum_11 (fun c11 => ?_) (fun c11 => ?_)
  · replace h := it c11 h
    exact j_sub [] rfl (w_X3_sum_74 hD K X hrc h)
  · replace h := ie c11 h
    refine j_aload_n K dX3_sum_14 rfl 0 rfl ?_
    refine j_bipush (v := (43 : Int32)) K dX3_sum_15 (by decide) ?_
    obtain ⟨w17, ew17, h⟩ := bd h
    have ho17 := obS ew17
    obtain ⟨v17, S17, e17, h⟩ := bd2 h
    refine j_cI (st := []) K (r_V (vs := [vI (43 : Int32)]) (n := 1) (o := o) K (c_X3_isNext e17) ho17 (by decide) rfl dX3_sum_17 z279 z281 zs5 z4 z282 ⟨zd_X3_isNext, rfl, rfl, rfl, ⟨(by simp only [rmd]; omega), (by simp only [rmd]; omega)⟩, Nat.le_of_ble_eq_true rfl, Nat.le_of_ble_eq_true rfl, Nat.le_of_ble_eq_true rfl⟩) rfl ?_
    refine j_if_ne K dX3_sum_20 (fun c20 => ?_) (fun c20 => ?_)
    · replace h := ie c20 h
      exact w_X3_sum_32 hD K X hrc hk7 h
    · replace h := it c20 h
      refine j_aload_n K dX3_sum_23 rfl 0 rfl ?_
      refine j_bipush (v := (45 : Int32)) K dX3_sum_24 (by decide) ?_
      obtain ⟨w26, ew26, h⟩ := bd h
      have ho26 := obS ew26
      obtain ⟨v26, S26, e26, h⟩ := bd2 h
      refine j_cI (st := []) K (r_V (vs := [vI (45 : Int32)]) (n := 1) (o := o) K (c_X3_isNext e26) ho26 (by decide) rfl dX3_sum_26 z279 z281 zs5 z4 z282 ⟨zd_X3_isNext, rfl, rfl, rfl, ⟨(by simp only [rmd]; omega), (by simp only [rmd]; omega)⟩, Nat.le_of_ble_eq_true rfl, Nat.le_of_ble_eq_true rfl, Nat.le_of_ble_eq_true rfl⟩) rfl ?_
      refine j_if_eq K dX3_sum_29 (fun c29 => ?_) (fun c29 => ?_)
      · replace h := it c29 h
        exact j_sub [] rfl (w_X3_sum_74 hD K X hrc h)
      · replace h := ie c29 h
        exact w_X3_sum_32 hD K X hrc hk7 h
def B_X3_sum_7 (rc : Hp → Nat → Int32 → Option Hp) (fu : Nat) (o : Nat) (x1 : Int32) : Nat → Hp → Int32 → Option (Hp)
  | 0 => fun _ _ => none
  | n + 1 => L_X3_sum_7 rc (B_X3_sum_7 rc fu o x1 n) fu o x1
theorem w_X3_sum_7 {E : Cx} {l : Launch} {res : Hp} {ad : Nat → Nat} {D : Nat} (hD : 12 ≤ D) {rc : Hp → Nat → Int32 → Option Hp} {fu : Nat} {o : Nat} {x1 : Int32} (K : Kx E cX3_sum RX3 (rmd (D + 4) 0 0)) (X : Bx E l yX3_sum 4 none 0 0 ad (QV res)) (hrc : ∀ (l : Launch) (S : Hp) (o : Nat) (x : Int32) (S1 : Hp), rc S o x = some S1 → Ct l yX3_or cX3_or 3 none (rmd D 0 0) 0 0 [vR (some o), vI x] S (QV S1)) : ∀ (n : Nat) (S : Hp) (x2 : Int32), B_X3_sum_7 rc fu o x1 n S x2 = some res → J E 0 0 7 [(0, vR (some o)), (1, vI x1), (2, vI x2)] [] S ad := by
  intro n
  induction n with
  | zero =>
    intro S x2 h
    cases h
  | succ n ih =>
    intro S x2 h
    exact wl_X3_sum_7 hD K X hrc ih h
def F_X3_sum (rc : Hp → Nat → Int32 → Option Hp) (fu : Nat) (S : Hp) (o : Nat) (x1 : Int32) : Option (Hp) :=
  (ob S 2 (some o)).bind fun _ =>
  (F_X3_term rc fu S o x1).bind fun S2 =>
  B_X3_sum_7 rc fu o x1 fu S2 (0 : Int32)
set_option maxRecDepth 100000 in
set_option maxHeartbeats 4000000 in
theorem w_X3_sum {E : Cx} {l : Launch} {res : Hp} {ad : Nat → Nat} {D : Nat} (hD : 12 ≤ D) {rc : Hp → Nat → Int32 → Option Hp} {fu : Nat} {S : Hp} {o : Nat} {x1 : Int32} (K : Kx E cX3_sum RX3 (rmd (D + 4) 0 0)) (X : Bx E l yX3_sum 4 none 0 0 ad (QV res)) (hrc : ∀ (l : Launch) (S : Hp) (o : Nat) (x : Int32) (S1 : Hp), rc S o x = some S1 → Ct l yX3_or cX3_or 3 none (rmd D 0 0) 0 0 [vR (some o), vI x] S (QV S1)) (h : F_X3_sum rc fu S o x1 = some res) : J E 0 0 0 [(0, vR (some o)), (1, vI x1)] [] S ad := by
  refine j_aload_n K dX3_sum_0 rfl 0 rfl ?_
  refine j_iload_n K dX3_sum_1 rfl 1 rfl ?_
  obtain ⟨w2, ew2, h⟩ := bd h
  have ho2 := obS ew2
  obtain ⟨S2, e2, h⟩ := bd h
  refine j_cV (st := []) K (r_V (vs := [vI x1]) (n := 1) (o := o) K (c_X3_term hD hrc e2) ho2 (by decide) rfl dX3_sum_2 z312 z314 zs13 z4 z315 ⟨zd_X3_term, rfl, rfl, rfl, ⟨(by simp only [rmd]; omega), (by simp only [rmd]; omega)⟩, Nat.le_of_ble_eq_true rfl, Nat.le_of_ble_eq_true rfl, Nat.le_of_ble_eq_true rfl⟩) rfl ?_
  refine j_iconst (v := (0 : Int32)) K dX3_sum_5 (by decide) ?_
  refine j_istore_n (lv' := [(2, vI (0 : Int32)), (0, vR (some o)), (1, vI x1)]) K dX3_sum_6 rfl X.2.2.1 (by decide) rfl ?_
  exact j_sub [1, 2, 0] rfl (w_X3_sum_7 hD K X hrc _ _ _ h)
theorem c_X3_sum {fu D : Nat} (hD : 12 ≤ D) {rc : Hp → Nat → Int32 → Option Hp} (hrc : ∀ (l : Launch) (S : Hp) (o : Nat) (x : Int32) (S1 : Hp), rc S o x = some S1 → Ct l yX3_or cX3_or 3 none (rmd D 0 0) 0 0 [vR (some o), vI x] S (QV S1)) {l : Launch} {S : Hp} {o : Nat} {x1 : Int32} {res : Hp} (h : F_X3_sum rc fu S o x1 = some res) : Ct l yX3_sum cX3_sum 4 none (rmd (D + 4) 0 0) 0 0 [vR (some o), vI x1] S (QV res) :=
  z_entry (by decide +kernel) (Nat.le_of_ble_eq_true rfl) (fun E ad K X => w_X3_sum hD K X hrc h)

theorem dX3_comparison_0 : decode cX3_comparison 0 = .ok (.aload_n 0, 1) ∧ 0 + 1 = 1 := ⟨by decide +kernel, rfl⟩
theorem dX3_comparison_1 : decode cX3_comparison 1 = .ok (.iload_n 1, 1) ∧ 1 + 1 = 2 := ⟨by decide +kernel, rfl⟩
theorem dX3_comparison_2 : decode cX3_comparison 2 = .ok (.invokevirtual 82, 3) := by decide +kernel
theorem dX3_comparison_5 : decode cX3_comparison 5 = .ok (.aload_n 0, 1) ∧ 5 + 1 = 6 := ⟨by decide +kernel, rfl⟩
theorem dX3_comparison_6 : decode cX3_comparison 6 = .ok (.bipush 60, 2) ∧ 6 + 2 = 8 := ⟨by decide +kernel, rfl⟩
theorem dX3_comparison_8 : decode cX3_comparison 8 = .ok (.invokevirtual 43, 3) := by decide +kernel
theorem dX3_comparison_11 : decode cX3_comparison 11 = .ok (.ifCond .ne 12, 3) ∧ 11 + 3 = 14 ∧ ((11 : Nat) : Int) + (12) = ((23 : Nat) : Int) := ⟨by decide +kernel, rfl, by decide⟩
theorem dX3_comparison_14 : decode cX3_comparison 14 = .ok (.aload_n 0, 1) ∧ 14 + 1 = 15 := ⟨by decide +kernel, rfl⟩
theorem dX3_comparison_15 : decode cX3_comparison 15 = .ok (.bipush 61, 2) ∧ 15 + 2 = 17 := ⟨by decide +kernel, rfl⟩
theorem dX3_comparison_17 : decode cX3_comparison 17 = .ok (.invokevirtual 43, 3) := by decide +kernel
theorem dX3_comparison_20 : decode cX3_comparison 20 = .ok (.ifCond .eq 39, 3) ∧ 20 + 3 = 23 ∧ ((20 : Nat) : Int) + (39) = ((59 : Nat) : Int) := ⟨by decide +kernel, rfl, by decide⟩
theorem dX3_comparison_23 : decode cX3_comparison 23 = .ok (.aload_n 0, 1) ∧ 23 + 1 = 24 := ⟨by decide +kernel, rfl⟩
theorem dX3_comparison_24 : decode cX3_comparison 24 = .ok (.getfield 28, 3) ∧ 24 + 3 = 27 := ⟨by decide +kernel, rfl⟩
theorem dX3_comparison_27 : decode cX3_comparison 27 = .ok (.getfield 85, 3) ∧ 27 + 3 = 30 := ⟨by decide +kernel, rfl⟩
theorem dX3_comparison_30 : decode cX3_comparison 30 = .ok (.aload_n 0, 1) ∧ 30 + 1 = 31 := ⟨by decide +kernel, rfl⟩
theorem dX3_comparison_31 : decode cX3_comparison 31 = .ok (.getfield 15, 3) ∧ 31 + 3 = 34 := ⟨by decide +kernel, rfl⟩
theorem dX3_comparison_34 : decode cX3_comparison 34 = .ok (.invokestatic 88, 3) := by decide +kernel
theorem dX3_comparison_37 : decode cX3_comparison 37 = .ok (.istore_n 2, 1) ∧ 37 + 1 = 38 := ⟨by decide +kernel, rfl⟩
theorem dX3_comparison_38 : decode cX3_comparison 38 = .ok (.aload_n 0, 1) ∧ 38 + 1 = 39 := ⟨by decide +kernel, rfl⟩
theorem dX3_comparison_39 : decode cX3_comparison 39 = .ok (.dup, 1) ∧ 39 + 1 = 40 := ⟨by decide +kernel, rfl⟩
theorem dX3_comparison_40 : decode cX3_comparison 40 = .ok (.getfield 15, 3) ∧ 40 + 3 = 43 := ⟨by decide +kernel, rfl⟩
theorem dX3_comparison_43 : decode cX3_comparison 43 = .ok (.iconst 1, 1) ∧ 43 + 1 = 44 := ⟨by decide +kernel, rfl⟩
theorem dX3_comparison_44 : decode cX3_comparison 44 = .ok (.iadd, 1) ∧ 44 + 1 = 45 := ⟨by decide +kernel, rfl⟩
theorem dX3_comparison_45 : decode cX3_comparison 45 = .ok (.putfield 15, 3) ∧ 45 + 3 = 48 := ⟨by decide +kernel, rfl⟩
theorem dX3_comparison_48 : decode cX3_comparison 48 = .ok (.aload_n 0, 1) ∧ 48 + 1 = 49 := ⟨by decide +kernel, rfl⟩
theorem dX3_comparison_49 : decode cX3_comparison 49 = .ok (.iload_n 1, 1) ∧ 49 + 1 = 50 := ⟨by decide +kernel, rfl⟩
theorem dX3_comparison_50 : decode cX3_comparison 50 = .ok (.invokevirtual 82, 3) := by decide +kernel
theorem dX3_comparison_53 : decode cX3_comparison 53 = .ok (.aload_n 0, 1) ∧ 53 + 1 = 54 := ⟨by decide +kernel, rfl⟩
theorem dX3_comparison_54 : decode cX3_comparison 54 = .ok (.iload_n 2, 1) ∧ 54 + 1 = 55 := ⟨by decide +kernel, rfl⟩
theorem dX3_comparison_55 : decode cX3_comparison 55 = .ok (.ineg, 1) ∧ 55 + 1 = 56 := ⟨by decide +kernel, rfl⟩
theorem dX3_comparison_56 : decode cX3_comparison 56 = .ok (.invokevirtual 69, 3) := by decide +kernel
theorem dX3_comparison_59 : decode cX3_comparison 59 = .ok (.return_, 1) := by decide +kernel
def B_X3_comparison_59 (rc : Hp → Nat → Int32 → Option Hp) (fu : Nat) (o : Nat) (S : Hp) : Option (Hp) :=
  some S
set_option maxRecDepth 100000 in
set_option maxHeartbeats 4000000 in
theorem w_X3_comparison_59 {E : Cx} {l : Launch} {res : Hp} {ad : Nat → Nat} {D : Nat} (hD : 12 ≤ D) {rc : Hp → Nat → Int32 → Option Hp} {fu : Nat} {o : Nat} {S : Hp} (K : Kx E cX3_comparison RX3 (rmd (D + 5) 0 0)) (X : Bx E l yX3_comparison 3 none 0 0 ad (QV res)) (hrc : ∀ (l : Launch) (S : Hp) (o : Nat) (x : Int32) (S1 : Hp), rc S o x = some S1 → Ct l yX3_or cX3_or 3 none (rmd D 0 0) 0 0 [vR (some o), vI x] S (QV S1)) (h : B_X3_comparison_59 rc fu o S = some res) : J E 0 0 59 [] [] S ad := by
  exact j_vret K X dX3_comparison_59 h
def B_X3_comparison_23 (rc : Hp → Nat → Int32 → Option Hp) (fu : Nat) (o : Nat) (S : Hp) (x1 : Int32) : Option (Hp) :=
  (gR S (some o) 2 0).bind fun v24 =>
  (gR S v24 4 2).bind fun v27 =>
  (gI S (some o) 2 2).bind fun v31 =>
  b2 (F_X7_at S v27 v31) fun v34 S34 =>
  (gI S34 (some o) 2 2).bind fun v40 =>
  (pI S34 (some o) 2 2 (v40 + (1 : Int32))).bind fun S45 =>
  (ob S45 2 (some o)).bind fun _ =>
  (F_X3_sum rc fu S45 o x1).bind fun S50 =>
  (ob S50 2 (some o)).bind fun _ =>
  (F_X3_write S50 o (-v34)).bind fun S56 =>
  B_X3_comparison_59 rc fu o S56
set_option maxRecDepth 100000 in
set_option maxHeartbeats 4000000 in
theorem w_X3_comparison_23 {E : Cx} {l : Launch} {res : Hp} {ad : Nat → Nat} {D : Nat} (hD : 12 ≤ D) {rc : Hp → Nat → Int32 → Option Hp} {fu : Nat} {o : Nat} {S : Hp} {x1 : Int32} (K : Kx E cX3_comparison RX3 (rmd (D + 5) 0 0)) (X : Bx E l yX3_comparison 3 none 0 0 ad (QV res)) (hrc : ∀ (l : Launch) (S : Hp) (o : Nat) (x : Int32) (S1 : Hp), rc S o x = some S1 → Ct l yX3_or cX3_or 3 none (rmd D 0 0) 0 0 [vR (some o), vI x] S (QV S1)) (h : B_X3_comparison_23 rc fu o S x1 = some res) : J E 0 0 23 [(0, vR (some o)), (1, vI x1)] [] S ad := by
  refine j_aload_n K dX3_comparison_23 rfl 0 rfl ?_
  obtain ⟨v24, e24, h⟩ := bd h
  refine fgX3_28 K dX3_comparison_24 e24 ?_
  obtain ⟨v27, e27, h⟩ := bd h
  refine fgX3_85 K dX3_comparison_27 e27 ?_
  refine j_aload_n K dX3_comparison_30 rfl 0 rfl ?_
  obtain ⟨v31, e31, h⟩ := bd h
  refine fgX3_15 K dX3_comparison_31 e31 ?_
  obtain ⟨v34, S34, e34, h⟩ := bd2 h
  refine j_cI (st := []) K (r_SN (vs := [vR v27, vI v31]) (n := 2) (host := RX7) K (c_X7_at e34) dX3_comparison_34 (List.mem_of_getElem? (i := 5) rfl) z227 z1 z228 ⟨zd_X7_at, rfl, rfl, rfl, ⟨(by simp only [rmd]; omega), (by simp only [rmd]; omega)⟩, Nat.le_of_ble_eq_true rfl, Nat.le_of_ble_eq_true rfl, Nat.le_of_ble_eq_true rfl⟩) rfl ?_
  refine j_istore_n (lv' := [(2, vI v34), (0, vR (some o)), (1, vI x1)]) K dX3_comparison_37 rfl X.2.2.1 (by decide) rfl ?_
  refine j_aload_n K dX3_comparison_38 rfl 1 rfl ?_
  refine j_dup K dX3_comparison_39 rfl ?_
  obtain ⟨v40, e40, h⟩ := bd h
  refine fgX3_15 K dX3_comparison_40 e40 ?_
  refine j_iconst (v := (1 : Int32)) K dX3_comparison_43 (by decide) ?_
  refine j_iadd K dX3_comparison_44 ?_
  obtain ⟨S45, e45, h⟩ := bd h
  refine fpX3_15 K dX3_comparison_45 e45 ?_
  refine j_aload_n K dX3_comparison_48 rfl 1 rfl ?_
  refine j_iload_n K dX3_comparison_49 rfl 2 rfl ?_
  obtain ⟨w50, ew50, h⟩ := bd h
  have ho50 := obS ew50
  obtain ⟨S50, e50, h⟩ := bd h
  refine j_cV (st := []) K (r_V (vs := [vI x1]) (n := 1) (o := o) K (c_X3_sum hD hrc e50) ho50 (by decide) rfl dX3_comparison_50 z308 z310 zs12 z4 z311 ⟨zd_X3_sum, rfl, rfl, rfl, ⟨(by simp only [rmd]; omega), (by simp only [rmd]; omega)⟩, Nat.le_of_ble_eq_true rfl, Nat.le_of_ble_eq_true rfl, Nat.le_of_ble_eq_true rfl⟩) rfl ?_
  refine j_aload_n K dX3_comparison_53 rfl 1 rfl ?_
  refine j_iload_n K dX3_comparison_54 rfl 0 rfl ?_
  refine j_ineg K dX3_comparison_55 ?_
  obtain ⟨w56, ew56, h⟩ := bd h
  have ho56 := obS ew56
  obtain ⟨S56, e56, h⟩ := bd h
  refine j_cV (st := []) K (r_V (vs := [vI (-v34)]) (n := 1) (o := o) K (c_X3_write e56) ho56 (by decide) rfl dX3_comparison_56 z328 z330 zs16 z4 z331 ⟨zd_X3_write, rfl, rfl, rfl, ⟨(by simp only [rmd]; omega), (by simp only [rmd]; omega)⟩, Nat.le_of_ble_eq_true rfl, Nat.le_of_ble_eq_true rfl, Nat.le_of_ble_eq_true rfl⟩) rfl ?_
  exact j_sub [] rfl (w_X3_comparison_59 hD K X hrc h)
def F_X3_comparison (rc : Hp → Nat → Int32 → Option Hp) (fu : Nat) (S : Hp) (o : Nat) (x1 : Int32) : Option (Hp) :=
  (ob S 2 (some o)).bind fun _ =>
  (F_X3_sum rc fu S o x1).bind fun S2 =>
  (ob S2 2 (some o)).bind fun _ =>
  b2 (F_X3_isNext S2 o (60 : Int32)) fun v8 S8 =>
  if v8 = 0 then
    (ob S8 2 (some o)).bind fun _ =>
    b2 (F_X3_isNext S8 o (61 : Int32)) fun v17 S17 =>
    if v17 = 0 then
      B_X3_comparison_59 rc fu o S17
    else
      B_X3_comparison_23 rc fu o S17 x1
  else
    B_X3_comparison_23 rc fu o S8 x1
set_option maxRecDepth 100000 in
set_option maxHeartbeats 4000000 in
theorem w_X3_comparison {E : Cx} {l : Launch} {res : Hp} {ad : Nat → Nat} {D : Nat} (hD : 12 ≤ D) {rc : Hp → Nat → Int32 → Option Hp} {fu : Nat} {S : Hp} {o : Nat} {x1 : Int32} (K : Kx E cX3_comparison RX3 (rmd (D + 5) 0 0)) (X : Bx E l yX3_comparison 3 none 0 0 ad (QV res)) (hrc : ∀ (l : Launch) (S : Hp) (o : Nat) (x : Int32) (S1 : Hp), rc S o x = some S1 → Ct l yX3_or cX3_or 3 none (rmd D 0 0) 0 0 [vR (some o), vI x] S (QV S1)) (h : F_X3_comparison rc fu S o x1 = some res) : J E 0 0 0 [(0, vR (some o)), (1, vI x1)] [] S ad := by
  refine j_aload_n K dX3_comparison_0 rfl 0 rfl ?_
  refine j_iload_n K dX3_comparison_1 rfl 1 rfl ?_
  obtain ⟨w2, ew2, h⟩ := bd h
  have ho2 := obS ew2
  obtain ⟨S2, e2, h⟩ := bd h
  refine j_cV (st := []) K (r_V (vs := [vI x1]) (n := 1) (o := o) K (c_X3_sum hD hrc e2) ho2 (by decide) rfl dX3_comparison_2 z308 z310 zs12 z4 z311 ⟨zd_X3_sum, rfl, rfl, rfl, ⟨(by simp only [rmd]; omega), (by simp only [rmd]; omega)⟩, Nat.le_of_ble_eq_true rfl, Nat.le_of_ble_eq_true rfl, Nat.le_of_ble_eq_true rfl⟩) rfl ?_
  refine j_aload_n K dX3_comparison_5 rfl 0 rfl ?_
  refine j_bipush (v := (60 : Int32)) K dX3_comparison_6 (by decide) ?_
  obtain ⟨w8, ew8, h⟩ := bd h
  have ho8 := obS ew8
  obtain ⟨v8, S8, e8, h⟩ := bd2 h
  refine j_cI (st := []) K (r_V (vs := [vI (60 : Int32)]) (n := 1) (o := o) K (c_X3_isNext e8) ho8 (by decide) rfl dX3_comparison_8 z279 z281 zs5 z4 z282 ⟨zd_X3_isNext, rfl, rfl, rfl, ⟨(by simp only [rmd]; omega), (by simp only [rmd]; omega)⟩, Nat.le_of_ble_eq_true rfl, Nat.le_of_ble_eq_true rfl, Nat.le_of_ble_eq_true rfl⟩) rfl ?_
  refine j_if_ne K dX3_comparison_11 (fun c11 => ?_) (fun c11 => ?_)
  · replace h := ie c11 h
    exact w_X3_comparison_23 hD K X hrc h
  · replace h := it c11 h
    refine j_aload_n K dX3_comparison_14 rfl 0 rfl ?_
    refine j_bipush (v := (61 : Int32)) K dX3_comparison_15 (by decide) ?_
    obtain ⟨w17, ew17, h⟩ := bd h
    have ho17 := obS ew17
    obtain ⟨v17, S17, e17, h⟩ := bd2 h
    refine j_cI (st := []) K (r_V (vs := [vI (61 : Int32)]) (n := 1) (o := o) K (c_X3_isNext e17) ho17 (by decide) rfl dX3_comparison_17 z279 z281 zs5 z4 z282 ⟨zd_X3_isNext, rfl, rfl, rfl, ⟨(by simp only [rmd]; omega), (by simp only [rmd]; omega)⟩, Nat.le_of_ble_eq_true rfl, Nat.le_of_ble_eq_true rfl, Nat.le_of_ble_eq_true rfl⟩) rfl ?_
    refine j_if_eq K dX3_comparison_20 (fun c20 => ?_) (fun c20 => ?_)
    · replace h := it c20 h
      exact j_sub [] rfl (w_X3_comparison_59 hD K X hrc h)
    · replace h := ie c20 h
      exact w_X3_comparison_23 hD K X hrc h
theorem c_X3_comparison {fu D : Nat} (hD : 12 ≤ D) {rc : Hp → Nat → Int32 → Option Hp} (hrc : ∀ (l : Launch) (S : Hp) (o : Nat) (x : Int32) (S1 : Hp), rc S o x = some S1 → Ct l yX3_or cX3_or 3 none (rmd D 0 0) 0 0 [vR (some o), vI x] S (QV S1)) {l : Launch} {S : Hp} {o : Nat} {x1 : Int32} {res : Hp} (h : F_X3_comparison rc fu S o x1 = some res) : Ct l yX3_comparison cX3_comparison 3 none (rmd (D + 5) 0 0) 0 0 [vR (some o), vI x1] S (QV res) :=
  z_entry (by decide +kernel) (Nat.le_of_ble_eq_true rfl) (fun E ad K X => w_X3_comparison hD K X hrc h)

theorem dX3_not_0 : decode cX3_not 0 = .ok (.aload_n 0, 1) ∧ 0 + 1 = 1 := ⟨by decide +kernel, rfl⟩
theorem dX3_not_1 : decode cX3_not 1 = .ok (.bipush 15, 2) ∧ 1 + 2 = 3 := ⟨by decide +kernel, rfl⟩
theorem dX3_not_3 : decode cX3_not 3 = .ok (.iload_n 1, 1) ∧ 3 + 1 = 4 := ⟨by decide +kernel, rfl⟩
theorem dX3_not_4 : decode cX3_not 4 = .ok (.invokevirtual 75, 3) := by decide +kernel
theorem dX3_not_7 : decode cX3_not 7 = .ok (.istore_n 2, 1) ∧ 7 + 1 = 8 := ⟨by decide +kernel, rfl⟩
theorem dX3_not_8 : decode cX3_not 8 = .ok (.aload_n 0, 1) ∧ 8 + 1 = 9 := ⟨by decide +kernel, rfl⟩
theorem dX3_not_9 : decode cX3_not 9 = .ok (.iload_n 1, 1) ∧ 9 + 1 = 10 := ⟨by decide +kernel, rfl⟩
theorem dX3_not_10 : decode cX3_not 10 = .ok (.iload_n 2, 1) ∧ 10 + 1 = 11 := ⟨by decide +kernel, rfl⟩
theorem dX3_not_11 : decode cX3_not 11 = .ok (.iadd, 1) ∧ 11 + 1 = 12 := ⟨by decide +kernel, rfl⟩
theorem dX3_not_12 : decode cX3_not 12 = .ok (.invokevirtual 79, 3) := by decide +kernel
theorem dX3_not_15 : decode cX3_not 15 = .ok (.iconst 0, 1) ∧ 15 + 1 = 16 := ⟨by decide +kernel, rfl⟩
theorem dX3_not_16 : decode cX3_not 16 = .ok (.istore_n 3, 1) ∧ 16 + 1 = 17 := ⟨by decide +kernel, rfl⟩
theorem dX3_not_17 : decode cX3_not 17 = .ok (.iload_n 3, 1) ∧ 17 + 1 = 18 := ⟨by decide +kernel, rfl⟩
theorem dX3_not_18 : decode cX3_not 18 = .ok (.iload_n 2, 1) ∧ 18 + 1 = 19 := ⟨by decide +kernel, rfl⟩
theorem dX3_not_19 : decode cX3_not 19 = .ok (.if_icmp .ge 15, 3) ∧ 19 + 3 = 22 ∧ ((19 : Nat) : Int) + (15) = ((34 : Nat) : Int) := ⟨by decide +kernel, rfl, by decide⟩
theorem dX3_not_22 : decode cX3_not 22 = .ok (.aload_n 0, 1) ∧ 22 + 1 = 23 := ⟨by decide +kernel, rfl⟩
theorem dX3_not_23 : decode cX3_not 23 = .ok (.bipush (-15), 2) ∧ 23 + 2 = 25 := ⟨by decide +kernel, rfl⟩
theorem dX3_not_25 : decode cX3_not 25 = .ok (.invokevirtual 69, 3) := by decide +kernel
theorem dX3_not_28 : decode cX3_not 28 = .ok (.iinc 3 1, 3) ∧ 28 + 3 = 31 := ⟨by decide +kernel, rfl⟩
theorem dX3_not_31 : decode cX3_not 31 = .ok (.goto (-14), 3) ∧ ((31 : Nat) : Int) + (-14) = ((17 : Nat) : Int) := ⟨by decide +kernel, by decide⟩
theorem dX3_not_34 : decode cX3_not 34 = .ok (.return_, 1) := by decide +kernel
def L_X3_not_17 (rc : Hp → Nat → Int32 → Option Hp) (k17 : Hp → Int32 → Option (Hp)) (fu : Nat) (o : Nat) (x2 : Int32) (S : Hp) (x3 : Int32) : Option (Hp) :=
  if x2 ≤ x3 then
    some S
  else
    (ob S 2 (some o)).bind fun _ =>
    (F_X3_write S o (-15 : Int32)).bind fun S25 =>
    k17 S25 (x3 + (1 : Int32))
set_option maxRecDepth 100000 in
set_option maxHeartbeats 4000000 in
theorem wl_X3_not_17 {E : Cx} {l : Launch} {res : Hp} {ad : Nat → Nat} {D : Nat} (hD : 12 ≤ D) {rc : Hp → Nat → Int32 → Option Hp} {k17 : Hp → Int32 → Option (Hp)} {fu : Nat} {o : Nat} {S : Hp} {x2 : Int32} {x3 : Int32} (K : Kx E cX3_not RX3 (rmd (D + 6) 0 0)) (X : Bx E l yX3_not 4 none 0 0 ad (QV res)) (hrc : ∀ (l : Launch) (S : Hp) (o : Nat) (x : Int32) (S1 : Hp), rc S o x = some S1 → Ct l yX3_or cX3_or 3 none (rmd D 0 0) 0 0 [vR (some o), vI x] S (QV S1)) (hk17 : ∀ (S : Hp) (x3 : Int32), k17 S x3 = some res → J E 0 0 17 [(0, vR (some o)), (2, vI x2), (3, vI x3)] [] S ad) (h : L_X3_not_17 rc k17 fu o x2 S x3 = some res) : J E 0 0 17 [(0, vR (some o)), (2, vI x2), (3, vI x3)] [] S ad := by
  refine j_iload_n K dX3_not_17 rfl 2 rfl ?_
  refine j_iload_n K dX3_not_18 rfl 1 rfl ?_
  refine j_icmp_ge K dX3_not_19 (fun c19 => ?_) (fun c19 => ?_)
  · replace h := it c19 h
    exact j_vret K X dX3_not_34 h
  · replace h := ie c19 h
    refine j_aload_n K dX3_not_22 rfl 0 rfl ?_
    refine j_bipush (v := (-15 : Int32)) K dX3_not_23 (by decide) ?_
    obtain ⟨w25, ew25, h⟩ := bd h
    have ho25 := obS ew25
    obtain ⟨S25, e25, h⟩ := bd h
    refine j_cV (st := []) K (r_V (vs := [vI (-15 : Int32)]) (n := 1) (o := o) K (c_X3_write e25) ho25 (by decide) rfl dX3_not_25 z328 z330 zs16 z4 z331 ⟨zd_X3_write, rfl, rfl, rfl, ⟨(by simp only [rmd]; omega), (by simp only [rmd]; omega)⟩, Nat.le_of_ble_eq_true rfl, Nat.le_of_ble_eq_true rfl, Nat.le_of_ble_eq_true rfl⟩) rfl ?_
    refine j_iinc (q := 2) (v := (x3 + (1 : Int32))) (lv' := [(3, vI (x3 + (1 : Int32))), (0, vR (some o)), (2, vI x2)]) K dX3_not_28 rfl rfl X.2.2.1 (by decide) rfl ?_
    refine j_goto K dX3_not_31 ?_
    exact j_sub [1, 2, 0] rfl (hk17 _ _ h)
def B_X3_not_17 (rc : Hp → Nat → Int32 → Option Hp) (fu : Nat) (o : Nat) (x2 : Int32) : Nat → Hp → Int32 → Option (Hp)
  | 0 => fun _ _ => none
  | n + 1 => L_X3_not_17 rc (B_X3_not_17 rc fu o x2 n) fu o x2
theorem w_X3_not_17 {E : Cx} {l : Launch} {res : Hp} {ad : Nat → Nat} {D : Nat} (hD : 12 ≤ D) {rc : Hp → Nat → Int32 → Option Hp} {fu : Nat} {o : Nat} {x2 : Int32} (K : Kx E cX3_not RX3 (rmd (D + 6) 0 0)) (X : Bx E l yX3_not 4 none 0 0 ad (QV res)) (hrc : ∀ (l : Launch) (S : Hp) (o : Nat) (x : Int32) (S1 : Hp), rc S o x = some S1 → Ct l yX3_or cX3_or 3 none (rmd D 0 0) 0 0 [vR (some o), vI x] S (QV S1)) : ∀ (n : Nat) (S : Hp) (x3 : Int32), B_X3_not_17 rc fu o x2 n S x3 = some res → J E 0 0 17 [(0, vR (some o)), (2, vI x2), (3, vI x3)] [] S ad := by
  intro n
  induction n with
  | zero =>
    intro S x3 h
    cases h
  | succ n ih =>
    intro S x3 h
    exact wl_X3_not_17 hD K X hrc ih h
def F_X3_not (rc : Hp → Nat → Int32 → Option Hp) (fu : Nat) (S : Hp) (o : Nat) (x1 : Int32) : Option (Hp) :=
  (ob S 2 (some o)).bind fun _ =>
  b2 (F_X3_openAll fu S o (15 : Int32) x1) fun v4 S4 =>
  (ob S4 2 (some o)).bind fun _ =>
  (F_X3_comparison rc fu S4 o (x1 + v4)).bind fun S12 =>
  B_X3_not_17 rc fu o v4 fu S12 (0 : Int32)
set_option maxRecDepth 100000 in
set_option maxHeartbeats 4000000 in
theorem w_X3_not {E : Cx} {l : Launch} {res : Hp} {ad : Nat → Nat} {D : Nat} (hD : 12 ≤ D) {rc : Hp → Nat → Int32 → Option Hp} {fu : Nat} {S : Hp} {o : Nat} {x1 : Int32} (K : Kx E cX3_not RX3 (rmd (D + 6) 0 0)) (X : Bx E l yX3_not 4 none 0 0 ad (QV res)) (hrc : ∀ (l : Launch) (S : Hp) (o : Nat) (x : Int32) (S1 : Hp), rc S o x = some S1 → Ct l yX3_or cX3_or 3 none (rmd D 0 0) 0 0 [vR (some o), vI x] S (QV S1)) (h : F_X3_not rc fu S o x1 = some res) : J E 0 0 0 [(0, vR (some o)), (1, vI x1)] [] S ad := by
  refine j_aload_n K dX3_not_0 rfl 0 rfl ?_
  refine j_bipush (v := (15 : Int32)) K dX3_not_1 (by decide) ?_
  refine j_iload_n K dX3_not_3 rfl 1 rfl ?_
  obtain ⟨w4, ew4, h⟩ := bd h
  have ho4 := obS ew4
  obtain ⟨v4, S4, e4, h⟩ := bd2 h
  refine j_cI (st := []) K (r_V (vs := [vI (15 : Int32), vI x1]) (n := 2) (o := o) K (c_X3_openAll e4) ho4 (by decide) rfl dX3_not_4 z300 z302 zs10 z4 z303 ⟨zd_X3_openAll, rfl, rfl, rfl, ⟨(by simp only [rmd]; omega), (by simp only [rmd]; omega)⟩, Nat.le_of_ble_eq_true rfl, Nat.le_of_ble_eq_true rfl, Nat.le_of_ble_eq_true rfl⟩) rfl ?_
  refine j_istore_n (lv' := [(2, vI v4), (0, vR (some o)), (1, vI x1)]) K dX3_not_7 rfl X.2.2.1 (by decide) rfl ?_
  refine j_aload_n K dX3_not_8 rfl 1 rfl ?_
  refine j_iload_n K dX3_not_9 rfl 2 rfl ?_
  refine j_iload_n K dX3_not_10 rfl 0 rfl ?_
  refine j_iadd K dX3_not_11 ?_
  obtain ⟨w12, ew12, h⟩ := bd h
  have ho12 := obS ew12
  obtain ⟨S12, e12, h⟩ := bd h
  refine j_cV (st := []) K (r_V (vs := [vI (x1 + v4)]) (n := 1) (o := o) K (c_X3_comparison hD hrc e12) ho12 (by decide) rfl dX3_not_12 z304 z306 zs11 z4 z307 ⟨zd_X3_comparison, rfl, rfl, rfl, ⟨(by simp only [rmd]; omega), (by simp only [rmd]; omega)⟩, Nat.le_of_ble_eq_true rfl, Nat.le_of_ble_eq_true rfl, Nat.le_of_ble_eq_true rfl⟩) rfl ?_
  refine j_iconst (v := (0 : Int32)) K dX3_not_15 (by decide) ?_
  refine j_istore_n (lv' := [(3, vI (0 : Int32)), (2, vI v4), (0, vR (some o)), (1, vI x1)]) K dX3_not_16 rfl X.2.2.1 (by decide) rfl ?_
  exact j_sub [2, 1, 0] rfl (w_X3_not_17 hD K X hrc _ _ _ h)
theorem c_X3_not {fu D : Nat} (hD : 12 ≤ D) {rc : Hp → Nat → Int32 → Option Hp} (hrc : ∀ (l : Launch) (S : Hp) (o : Nat) (x : Int32) (S1 : Hp), rc S o x = some S1 → Ct l yX3_or cX3_or 3 none (rmd D 0 0) 0 0 [vR (some o), vI x] S (QV S1)) {l : Launch} {S : Hp} {o : Nat} {x1 : Int32} {res : Hp} (h : F_X3_not rc fu S o x1 = some res) : Ct l yX3_not cX3_not 4 none (rmd (D + 6) 0 0) 0 0 [vR (some o), vI x1] S (QV res) :=
  z_entry (by decide +kernel) (Nat.le_of_ble_eq_true rfl) (fun E ad K X => w_X3_not hD K X hrc h)

theorem dX3_and_0 : decode cX3_and 0 = .ok (.aload_n 0, 1) ∧ 0 + 1 = 1 := ⟨by decide +kernel, rfl⟩
theorem dX3_and_1 : decode cX3_and 1 = .ok (.iload_n 1, 1) ∧ 1 + 1 = 2 := ⟨by decide +kernel, rfl⟩
theorem dX3_and_2 : decode cX3_and 2 = .ok (.invokevirtual 72, 3) := by decide +kernel
theorem dX3_and_5 : decode cX3_and 5 = .ok (.iconst 0, 1) ∧ 5 + 1 = 6 := ⟨by decide +kernel, rfl⟩
theorem dX3_and_6 : decode cX3_and 6 = .ok (.istore_n 2, 1) ∧ 6 + 1 = 7 := ⟨by decide +kernel, rfl⟩
theorem dX3_and_7 : decode cX3_and 7 = .ok (.iload_n 2, 1) ∧ 7 + 1 = 8 := ⟨by decide +kernel, rfl⟩
theorem dX3_and_8 : decode cX3_and 8 = .ok (.sipush 160, 3) ∧ 8 + 3 = 11 := ⟨by decide +kernel, rfl⟩
theorem dX3_and_11 : decode cX3_and 11 = .ok (.if_icmp .ge 39, 3) ∧ 11 + 3 = 14 ∧ ((11 : Nat) : Int) + (39) = ((50 : Nat) : Int) := ⟨by decide +kernel, rfl, by decide⟩
theorem dX3_and_14 : decode cX3_and 14 = .ok (.aload_n 0, 1) ∧ 14 + 1 = 15 := ⟨by decide +kernel, rfl⟩
theorem dX3_and_15 : decode cX3_and 15 = .ok (.bipush 14, 2) ∧ 15 + 2 = 17 := ⟨by decide +kernel, rfl⟩
theorem dX3_and_17 : decode cX3_and 17 = .ok (.invokevirtual 43, 3) := by decide +kernel
theorem dX3_and_20 : decode cX3_and 20 = .ok (.ifCond .eq 30, 3) ∧ 20 + 3 = 23 ∧ ((20 : Nat) : Int) + (30) = ((50 : Nat) : Int) := ⟨by decide +kernel, rfl, by decide⟩
theorem dX3_and_23 : decode cX3_and 23 = .ok (.aload_n 0, 1) ∧ 23 + 1 = 24 := ⟨by decide +kernel, rfl⟩
theorem dX3_and_24 : decode cX3_and 24 = .ok (.dup, 1) ∧ 24 + 1 = 25 := ⟨by decide +kernel, rfl⟩
theorem dX3_and_25 : decode cX3_and 25 = .ok (.getfield 15, 3) ∧ 25 + 3 = 28 := ⟨by decide +kernel, rfl⟩
theorem dX3_and_28 : decode cX3_and 28 = .ok (.iconst 1, 1) ∧ 28 + 1 = 29 := ⟨by decide +kernel, rfl⟩
theorem dX3_and_29 : decode cX3_and 29 = .ok (.iadd, 1) ∧ 29 + 1 = 30 := ⟨by decide +kernel, rfl⟩
theorem dX3_and_30 : decode cX3_and 30 = .ok (.putfield 15, 3) ∧ 30 + 3 = 33 := ⟨by decide +kernel, rfl⟩
theorem dX3_and_33 : decode cX3_and 33 = .ok (.aload_n 0, 1) ∧ 33 + 1 = 34 := ⟨by decide +kernel, rfl⟩
theorem dX3_and_34 : decode cX3_and 34 = .ok (.iload_n 1, 1) ∧ 34 + 1 = 35 := ⟨by decide +kernel, rfl⟩
theorem dX3_and_35 : decode cX3_and 35 = .ok (.invokevirtual 72, 3) := by decide +kernel
theorem dX3_and_38 : decode cX3_and 38 = .ok (.aload_n 0, 1) ∧ 38 + 1 = 39 := ⟨by decide +kernel, rfl⟩
theorem dX3_and_39 : decode cX3_and 39 = .ok (.bipush (-14), 2) ∧ 39 + 2 = 41 := ⟨by decide +kernel, rfl⟩
theorem dX3_and_41 : decode cX3_and 41 = .ok (.invokevirtual 69, 3) := by decide +kernel
theorem dX3_and_44 : decode cX3_and 44 = .ok (.iinc 2 1, 3) ∧ 44 + 3 = 47 := ⟨by decide +kernel, rfl⟩
theorem dX3_and_47 : decode cX3_and 47 = .ok (.goto (-40), 3) ∧ ((47 : Nat) : Int) + (-40) = ((7 : Nat) : Int) := ⟨by decide +kernel, by decide⟩
theorem dX3_and_50 : decode cX3_and 50 = .ok (.return_, 1) := by decide +kernel
def B_X3_and_50 (rc : Hp → Nat → Int32 → Option Hp) (fu : Nat) (o : Nat) (S : Hp) : Option (Hp) :=
  some S
set_option maxRecDepth 100000 in
set_option maxHeartbeats 4000000 in
theorem w_X3_and_50 {E : Cx} {l : Launch} {res : Hp} {ad : Nat → Nat} {D : Nat} (hD : 12 ≤ D) {rc : Hp → Nat → Int32 → Option Hp} {fu : Nat} {o : Nat} {S : Hp} (K : Kx E cX3_and RX3 (rmd (D + 7) 0 0)) (X : Bx E l yX3_and 3 none 0 0 ad (QV res)) (hrc : ∀ (l : Launch) (S : Hp) (o : Nat) (x : Int32) (S1 : Hp), rc S o x = some S1 → Ct l yX3_or cX3_or 3 none (rmd D 0 0) 0 0 [vR (some o), vI x] S (QV S1)) (h : B_X3_and_50 rc fu o S = some res) : J E 0 0 50 [] [] S ad := by
  exact j_vret K X dX3_and_50 h
def L_X3_and_7 (rc : Hp → Nat → Int32 → Option Hp) (k7 : Hp → Int32 → Option (Hp)) (fu : Nat) (o : Nat) (x1 : Int32) (S : Hp) (x2 : Int32) : Option (Hp) :=
  if (160 : Int32) ≤ x2 then
    B_X3_and_50 rc fu o S
  else
    (ob S 2 (some o)).bind fun _ =>
    b2 (F_X3_isNext S o (14 : Int32)) fun v17 S17 =>
    if v17 = 0 then
      B_X3_and_50 rc fu o S17
    else
      (gI S17 (some o) 2 2).bind fun v25 =>
      (pI S17 (some o) 2 2 (v25 + (1 : Int32))).bind fun S30 =>
      (ob S30 2 (some o)).bind fun _ =>
      (F_X3_not rc fu S30 o x1).bind fun S35 =>
      (ob S35 2 (some o)).bind fun _ =>
      (F_X3_write S35 o (-14 : Int32)).bind fun S41 =>
      k7 S41 (x2 + (1 : Int32))
set_option maxRecDepth 100000 in
set_option maxHeartbeats 4000000 in
theorem wl_X3_and_7 {E : Cx} {l : Launch} {res : Hp} {ad : Nat → Nat} {D : Nat} (hD : 12 ≤ D) {rc : Hp → Nat → Int32 → Option Hp} {k7 : Hp → Int32 → Option (Hp)} {fu : Nat} {o : Nat} {S : Hp} {x1 : Int32} {x2 : Int32} (K : Kx E cX3_and RX3 (rmd (D + 7) 0 0)) (X : Bx E l yX3_and 3 none 0 0 ad (QV res)) (hrc : ∀ (l : Launch) (S : Hp) (o : Nat) (x : Int32) (S1 : Hp), rc S o x = some S1 → Ct l yX3_or cX3_or 3 none (rmd D 0 0) 0 0 [vR (some o), vI x] S (QV S1)) (hk7 : ∀ (S : Hp) (x2 : Int32), k7 S x2 = some res → J E 0 0 7 [(0, vR (some o)), (1, vI x1), (2, vI x2)] [] S ad) (h : L_X3_and_7 rc k7 fu o x1 S x2 = some res) : J E 0 0 7 [(0, vR (some o)), (1, vI x1), (2, vI x2)] [] S ad := by
  refine j_iload_n K dX3_and_7 rfl 2 rfl ?_
  refine j_sipush (v := (160 : Int32)) K dX3_and_8 (by decide) ?_
  refine j_icmp_ge K dX3_and_11 (fun c11 => ?_) (fun c11 => ?_)
  · replace h := it c11 h
    exact j_sub [] rfl (w_X3_and_50 hD K X hrc h)
  · replace h := ie c11 h
    refine j_aload_n K dX3_and_14 rfl 0 rfl ?_
    refine j_bipush (v := (14 : Int32)) K dX3_and_15 (by decide) ?_
    obtain ⟨w17, ew17, h⟩ := bd h
    have ho17 := obS ew17
    obtain ⟨v17, S17, e17, h⟩ := bd2 h
    refine j_cI (st := []) K (r_V (vs := [vI (14 : Int32)]) (n := 1) (o := o) K (c_X3_isNext e17) ho17 (by decide) rfl dX3_and_17 z279 z281 zs5 z4 z282 ⟨zd_X3_isNext, rfl, rfl, rfl, ⟨(by simp only [rmd]; omega), (by simp only [rmd]; omega)⟩, Nat.le_of_ble_eq_true rfl, Nat.le_of_ble_eq_true rfl, Nat.le_of_ble_eq_true rfl⟩) rfl ?_
    refine j_if_eq K dX3_and_20 (fun c20 => ?_) (fun c20 => ?_)
    · replace h := it c20 h
      exact j_sub [] rfl (w_X3_and_50 hD K X hrc h)
    · replace h := ie c20 h
      refine j_aload_n K dX3_and_23 rfl 0 rfl ?_
      refine j_dup K dX3_and_24 rfl ?_
      obtain ⟨v25, e25, h⟩ := bd h
      refine fgX3_15 K dX3_and_25 e25 ?_
      refine j_iconst (v := (1 : Int32)) K dX3_and_28 (by decide) ?_
      refine j_iadd K dX3_and_29 ?_
      obtain ⟨S30, e30, h⟩ := bd h
      refine fpX3_15 K dX3_and_30 e30 ?_
      refine j_aload_n K dX3_and_33 rfl 0 rfl ?_
      refine j_iload_n K dX3_and_34 rfl 1 rfl ?_
      obtain ⟨w35, ew35, h⟩ := bd h
      have ho35 := obS ew35
      obtain ⟨S35, e35, h⟩ := bd h
      refine j_cV (st := []) K (r_V (vs := [vI x1]) (n := 1) (o := o) K (c_X3_not hD hrc e35) ho35 (by decide) rfl dX3_and_35 z296 z298 zs9 z4 z299 ⟨zd_X3_not, rfl, rfl, rfl, ⟨(by simp only [rmd]; omega), (by simp only [rmd]; omega)⟩, Nat.le_of_ble_eq_true rfl, Nat.le_of_ble_eq_true rfl, Nat.le_of_ble_eq_true rfl⟩) rfl ?_
      refine j_aload_n K dX3_and_38 rfl 0 rfl ?_
      refine j_bipush (v := (-14 : Int32)) K dX3_and_39 (by decide) ?_
      obtain ⟨w41, ew41, h⟩ := bd h
      have ho41 := obS ew41
      obtain ⟨S41, e41, h⟩ := bd h
      refine j_cV (st := []) K (r_V (vs := [vI (-14 : Int32)]) (n := 1) (o := o) K (c_X3_write e41) ho41 (by decide) rfl dX3_and_41 z328 z330 zs16 z4 z331 ⟨zd_X3_write, rfl, rfl, rfl, ⟨(by simp only [rmd]; omega), (by simp only [rmd]; omega)⟩, Nat.le_of_ble_eq_true rfl, Nat.le_of_ble_eq_true rfl, Nat.le_of_ble_eq_true rfl⟩) rfl ?_
      refine j_iinc (q := 2) (v := (x2 + (1 : Int32))) (lv' := [(2, vI (x2 + (1 : Int32))), (0, vR (some o)), (1, vI x1)]) K dX3_and_44 rfl rfl X.2.2.1 (by decide) rfl ?_
      refine j_goto K dX3_and_47 ?_
      exact j_sub [1, 2, 0] rfl (hk7 _ _ h)
def B_X3_and_7 (rc : Hp → Nat → Int32 → Option Hp) (fu : Nat) (o : Nat) (x1 : Int32) : Nat → Hp → Int32 → Option (Hp)
  | 0 => fun _ _ => none
  | n + 1 => L_X3_and_7 rc (B_X3_and_7 rc fu o x1 n) fu o x1
theorem w_X3_and_7 {E : Cx} {l : Launch} {res : Hp} {ad : Nat → Nat} {D : Nat} (hD : 12 ≤ D) {rc : Hp → Nat → Int32 → Option Hp} {fu : Nat} {o : Nat} {x1 : Int32} (K : Kx E cX3_and RX3 (rmd (D + 7) 0 0)) (X : Bx E l yX3_and 3 none 0 0 ad (QV res)) (hrc : ∀ (l : Launch) (S : Hp) (o : Nat) (x : Int32) (S1 : Hp), rc S o x = some S1 → Ct l yX3_or cX3_or 3 none (rmd D 0 0) 0 0 [vR (some o), vI x] S (QV S1)) : ∀ (n : Nat) (S : Hp) (x2 : Int32), B_X3_and_7 rc fu o x1 n S x2 = some res → J E 0 0 7 [(0, vR (some o)), (1, vI x1), (2, vI x2)] [] S ad := by
  intro n
  induction n with
  | zero =>
    intro S x2 h
    cases h
  | succ n ih =>
    intro S x2 h
    exact wl_X3_and_7 hD K X hrc ih h
def F_X3_and (rc : Hp → Nat → Int32 → Option Hp) (fu : Nat) (S : Hp) (o : Nat) (x1 : Int32) : Option (Hp) :=
  (ob S 2 (some o)).bind fun _ =>
  (F_X3_not rc fu S o x1).bind fun S2 =>
  B_X3_and_7 rc fu o x1 fu S2 (0 : Int32)
set_option maxRecDepth 100000 in
set_option maxHeartbeats 4000000 in
theorem w_X3_and {E : Cx} {l : Launch} {res : Hp} {ad : Nat → Nat} {D : Nat} (hD : 12 ≤ D) {rc : Hp → Nat → Int32 → Option Hp} {fu : Nat} {S : Hp} {o : Nat} {x1 : Int32} (K : Kx E cX3_and RX3 (rmd (D + 7) 0 0)) (X : Bx E l yX3_and 3 none 0 0 ad (QV res)) (hrc : ∀ (l : Launch) (S : Hp) (o : Nat) (x : Int32) (S1 : Hp), rc S o x = some S1 → Ct l yX3_or cX3_or 3 none (rmd D 0 0) 0 0 [vR (some o), vI x] S (QV S1)) (h : F_X3_and rc fu S o x1 = some res) : J E 0 0 0 [(0, vR (some o)), (1, vI x1)] [] S ad := by
  refine j_aload_n K dX3_and_0 rfl 0 rfl ?_
  refine j_iload_n K dX3_and_1 rfl 1 rfl ?_
  obtain ⟨w2, ew2, h⟩ := bd h
  have ho2 := obS ew2
  obtain ⟨S2, e2, h⟩ := bd h
  refine j_cV (st := []) K (r_V (vs := [vI x1]) (n := 1) (o := o) K (c_X3_not hD hrc e2) ho2 (by decide) rfl dX3_and_2 z296 z298 zs9 z4 z299 ⟨zd_X3_not, rfl, rfl, rfl, ⟨(by simp only [rmd]; omega), (by simp only [rmd]; omega)⟩, Nat.le_of_ble_eq_true rfl, Nat.le_of_ble_eq_true rfl, Nat.le_of_ble_eq_true rfl⟩) rfl ?_
  refine j_iconst (v := (0 : Int32)) K dX3_and_5 (by decide) ?_
  refine j_istore_n (lv' := [(2, vI (0 : Int32)), (0, vR (some o)), (1, vI x1)]) K dX3_and_6 rfl X.2.2.1 (by decide) rfl ?_
  exact j_sub [1, 2, 0] rfl (w_X3_and_7 hD K X hrc _ _ _ h)
theorem c_X3_and {fu D : Nat} (hD : 12 ≤ D) {rc : Hp → Nat → Int32 → Option Hp} (hrc : ∀ (l : Launch) (S : Hp) (o : Nat) (x : Int32) (S1 : Hp), rc S o x = some S1 → Ct l yX3_or cX3_or 3 none (rmd D 0 0) 0 0 [vR (some o), vI x] S (QV S1)) {l : Launch} {S : Hp} {o : Nat} {x1 : Int32} {res : Hp} (h : F_X3_and rc fu S o x1 = some res) : Ct l yX3_and cX3_and 3 none (rmd (D + 7) 0 0) 0 0 [vR (some o), vI x1] S (QV res) :=
  z_entry (by decide +kernel) (Nat.le_of_ble_eq_true rfl) (fun E ad K X => w_X3_and hD K X hrc h)

theorem dX3_or_0 : decode cX3_or 0 = .ok (.aload_n 0, 1) ∧ 0 + 1 = 1 := ⟨by decide +kernel, rfl⟩
theorem dX3_or_1 : decode cX3_or 1 = .ok (.iload_n 1, 1) ∧ 1 + 1 = 2 := ⟨by decide +kernel, rfl⟩
theorem dX3_or_2 : decode cX3_or 2 = .ok (.invokevirtual 66, 3) := by decide +kernel
theorem dX3_or_5 : decode cX3_or 5 = .ok (.iconst 0, 1) ∧ 5 + 1 = 6 := ⟨by decide +kernel, rfl⟩
theorem dX3_or_6 : decode cX3_or 6 = .ok (.istore_n 2, 1) ∧ 6 + 1 = 7 := ⟨by decide +kernel, rfl⟩
theorem dX3_or_7 : decode cX3_or 7 = .ok (.iload_n 2, 1) ∧ 7 + 1 = 8 := ⟨by decide +kernel, rfl⟩
theorem dX3_or_8 : decode cX3_or 8 = .ok (.sipush 160, 3) ∧ 8 + 3 = 11 := ⟨by decide +kernel, rfl⟩
theorem dX3_or_11 : decode cX3_or 11 = .ok (.if_icmp .ge 39, 3) ∧ 11 + 3 = 14 ∧ ((11 : Nat) : Int) + (39) = ((50 : Nat) : Int) := ⟨by decide +kernel, rfl, by decide⟩
theorem dX3_or_14 : decode cX3_or 14 = .ok (.aload_n 0, 1) ∧ 14 + 1 = 15 := ⟨by decide +kernel, rfl⟩
theorem dX3_or_15 : decode cX3_or 15 = .ok (.bipush 13, 2) ∧ 15 + 2 = 17 := ⟨by decide +kernel, rfl⟩
theorem dX3_or_17 : decode cX3_or 17 = .ok (.invokevirtual 43, 3) := by decide +kernel
theorem dX3_or_20 : decode cX3_or 20 = .ok (.ifCond .eq 30, 3) ∧ 20 + 3 = 23 ∧ ((20 : Nat) : Int) + (30) = ((50 : Nat) : Int) := ⟨by decide +kernel, rfl, by decide⟩
theorem dX3_or_23 : decode cX3_or 23 = .ok (.aload_n 0, 1) ∧ 23 + 1 = 24 := ⟨by decide +kernel, rfl⟩
theorem dX3_or_24 : decode cX3_or 24 = .ok (.dup, 1) ∧ 24 + 1 = 25 := ⟨by decide +kernel, rfl⟩
theorem dX3_or_25 : decode cX3_or 25 = .ok (.getfield 15, 3) ∧ 25 + 3 = 28 := ⟨by decide +kernel, rfl⟩
theorem dX3_or_28 : decode cX3_or 28 = .ok (.iconst 1, 1) ∧ 28 + 1 = 29 := ⟨by decide +kernel, rfl⟩
theorem dX3_or_29 : decode cX3_or 29 = .ok (.iadd, 1) ∧ 29 + 1 = 30 := ⟨by decide +kernel, rfl⟩
theorem dX3_or_30 : decode cX3_or 30 = .ok (.putfield 15, 3) ∧ 30 + 3 = 33 := ⟨by decide +kernel, rfl⟩
theorem dX3_or_33 : decode cX3_or 33 = .ok (.aload_n 0, 1) ∧ 33 + 1 = 34 := ⟨by decide +kernel, rfl⟩
theorem dX3_or_34 : decode cX3_or 34 = .ok (.iload_n 1, 1) ∧ 34 + 1 = 35 := ⟨by decide +kernel, rfl⟩
theorem dX3_or_35 : decode cX3_or 35 = .ok (.invokevirtual 66, 3) := by decide +kernel
theorem dX3_or_38 : decode cX3_or 38 = .ok (.aload_n 0, 1) ∧ 38 + 1 = 39 := ⟨by decide +kernel, rfl⟩
theorem dX3_or_39 : decode cX3_or 39 = .ok (.bipush (-13), 2) ∧ 39 + 2 = 41 := ⟨by decide +kernel, rfl⟩
theorem dX3_or_41 : decode cX3_or 41 = .ok (.invokevirtual 69, 3) := by decide +kernel
theorem dX3_or_44 : decode cX3_or 44 = .ok (.iinc 2 1, 3) ∧ 44 + 3 = 47 := ⟨by decide +kernel, rfl⟩
theorem dX3_or_47 : decode cX3_or 47 = .ok (.goto (-40), 3) ∧ ((47 : Nat) : Int) + (-40) = ((7 : Nat) : Int) := ⟨by decide +kernel, by decide⟩
theorem dX3_or_50 : decode cX3_or 50 = .ok (.return_, 1) := by decide +kernel
def B_X3_or_50 (rc : Hp → Nat → Int32 → Option Hp) (fu : Nat) (o : Nat) (S : Hp) : Option (Hp) :=
  some S
set_option maxRecDepth 100000 in
set_option maxHeartbeats 4000000 in
theorem w_X3_or_50 {E : Cx} {l : Launch} {res : Hp} {ad : Nat → Nat} {D : Nat} (hD : 12 ≤ D) {rc : Hp → Nat → Int32 → Option Hp} {fu : Nat} {o : Nat} {S : Hp} (K : Kx E cX3_or RX3 (rmd (D + 8) 0 0)) (X : Bx E l yX3_or 3 none 0 0 ad (QV res)) (hrc : ∀ (l : Launch) (S : Hp) (o : Nat) (x : Int32) (S1 : Hp), rc S o x = some S1 → Ct l yX3_or cX3_or 3 none (rmd D 0 0) 0 0 [vR (some o), vI x] S (QV S1)) (h : B_X3_or_50 rc fu o S = some res) : J E 0 0 50 [] [] S ad := by
  exact j_vret K X dX3_or_50 h
def L_X3_or_7 (rc : Hp → Nat → Int32 → Option Hp) (k7 : Hp → Int32 → Option (Hp)) (fu : Nat) (o : Nat) (x1 : Int32) (S : Hp) (x2 : Int32) : Option (Hp) :=
  if (160 : Int32) ≤ x2 then
    B_X3_or_50 rc fu o S
  else
    (ob S 2 (some o)).bind fun _ =>
    b2 (F_X3_isNext S o (13 : Int32)) fun v17 S17 =>
    if v17 = 0 then
      B_X3_or_50 rc fu o S17
    else
      (gI S17 (some o) 2 2).bind fun v25 =>
      (pI S17 (some o) 2 2 (v25 + (1 : Int32))).bind fun S30 =>
      (ob S30 2 (some o)).bind fun _ =>
      (F_X3_and rc fu S30 o x1).bind fun S35 =>
      (ob S35 2 (some o)).bind fun _ =>
      (F_X3_write S35 o (-13 : Int32)).bind fun S41 =>
      k7 S41 (x2 + (1 : Int32))
set_option maxRecDepth 100000 in
set_option maxHeartbeats 4000000 in
theorem wl_X3_or_7 {E : Cx} {l : Launch} {res : Hp} {ad : Nat → Nat} {D : Nat} (hD : 12 ≤ D) {rc : Hp → Nat → Int32 → Option Hp} {k7 : Hp → Int32 → Option (Hp)} {fu : Nat} {o : Nat} {S : Hp} {x1 : Int32} {x2 : Int32} (K : Kx E cX3_or RX3 (rmd (D + 8) 0 0)) (X : Bx E l yX3_or 3 none 0 0 ad (QV res)) (hrc : ∀ (l : Launch) (S : Hp) (o : Nat) (x : Int32) (S1 : Hp), rc S o x = some S1 → Ct l yX3_or cX3_or 3 none (rmd D 0 0) 0 0 [vR (some o), vI x] S (QV S1)) (hk7 : ∀ (S : Hp) (x2 : Int32), k7 S x2 = some res → J E 0 0 7 [(0, vR (some o)), (1, vI x1), (2, vI x2)] [] S ad) (h : L_X3_or_7 rc k7 fu o x1 S x2 = some res) : J E 0 0 7 [(0, vR (some o)), (1, vI x1), (2, vI x2)] [] S ad := by
  refine j_iload_n K dX3_or_7 rfl 2 rfl ?_
  refine j_sipush (v := (160 : Int32)) K dX3_or_8 (by decide) ?_
  refine j_icmp_ge K dX3_or_11 (fun c11 => ?_) (fun c11 => ?_)
  · replace h := it c11 h
    exact j_sub [] rfl (w_X3_or_50 hD K X hrc h)
  · replace h := ie c11 h
    refine j_aload_n K dX3_or_14 rfl 0 rfl ?_
    refine j_bipush (v := (13 : Int32)) K dX3_or_15 (by decide) ?_
    obtain ⟨w17, ew17, h⟩ := bd h
    have ho17 := obS ew17
    obtain ⟨v17, S17, e17, h⟩ := bd2 h
    refine j_cI (st := []) K (r_V (vs := [vI (13 : Int32)]) (n := 1) (o := o) K (c_X3_isNext e17) ho17 (by decide) rfl dX3_or_17 z279 z281 zs5 z4 z282 ⟨zd_X3_isNext, rfl, rfl, rfl, ⟨(by simp only [rmd]; omega), (by simp only [rmd]; omega)⟩, Nat.le_of_ble_eq_true rfl, Nat.le_of_ble_eq_true rfl, Nat.le_of_ble_eq_true rfl⟩) rfl ?_
    refine j_if_eq K dX3_or_20 (fun c20 => ?_) (fun c20 => ?_)
    · replace h := it c20 h
      exact j_sub [] rfl (w_X3_or_50 hD K X hrc h)
    · replace h := ie c20 h
      refine j_aload_n K dX3_or_23 rfl 0 rfl ?_
      refine j_dup K dX3_or_24 rfl ?_
      obtain ⟨v25, e25, h⟩ := bd h
      refine fgX3_15 K dX3_or_25 e25 ?_
      refine j_iconst (v := (1 : Int32)) K dX3_or_28 (by decide) ?_
      refine j_iadd K dX3_or_29 ?_
      obtain ⟨S30, e30, h⟩ := bd h
      refine fpX3_15 K dX3_or_30 e30 ?_
      refine j_aload_n K dX3_or_33 rfl 0 rfl ?_
      refine j_iload_n K dX3_or_34 rfl 1 rfl ?_
      obtain ⟨w35, ew35, h⟩ := bd h
      have ho35 := obS ew35
      obtain ⟨S35, e35, h⟩ := bd h
      refine j_cV (st := []) K (r_V (vs := [vI x1]) (n := 1) (o := o) K (c_X3_and hD hrc e35) ho35 (by decide) rfl dX3_or_35 z292 z294 zs8 z4 z295 ⟨zd_X3_and, rfl, rfl, rfl, ⟨(by simp only [rmd]; omega), (by simp only [rmd]; omega)⟩, Nat.le_of_ble_eq_true rfl, Nat.le_of_ble_eq_true rfl, Nat.le_of_ble_eq_true rfl⟩) rfl ?_
      refine j_aload_n K dX3_or_38 rfl 0 rfl ?_
      refine j_bipush (v := (-13 : Int32)) K dX3_or_39 (by decide) ?_
      obtain ⟨w41, ew41, h⟩ := bd h
      have ho41 := obS ew41
      obtain ⟨S41, e41, h⟩ := bd h
      refine j_cV (st := []) K (r_V (vs := [vI (-13 : Int32)]) (n := 1) (o := o) K (c_X3_write e41) ho41 (by decide) rfl dX3_or_41 z328 z330 zs16 z4 z331 ⟨zd_X3_write, rfl, rfl, rfl, ⟨(by simp only [rmd]; omega), (by simp only [rmd]; omega)⟩, Nat.le_of_ble_eq_true rfl, Nat.le_of_ble_eq_true rfl, Nat.le_of_ble_eq_true rfl⟩) rfl ?_
      refine j_iinc (q := 2) (v := (x2 + (1 : Int32))) (lv' := [(2, vI (x2 + (1 : Int32))), (0, vR (some o)), (1, vI x1)]) K dX3_or_44 rfl rfl X.2.2.1 (by decide) rfl ?_
      refine j_goto K dX3_or_47 ?_
      exact j_sub [1, 2, 0] rfl (hk7 _ _ h)
def B_X3_or_7 (rc : Hp → Nat → Int32 → Option Hp) (fu : Nat) (o : Nat) (x1 : Int32) : Nat → Hp → Int32 → Option (Hp)
  | 0 => fun _ _ => none
  | n + 1 => L_X3_or_7 rc (B_X3_or_7 rc fu o x1 n) fu o x1
theorem w_X3_or_7 {E : Cx} {l : Launch} {res : Hp} {ad : Nat → Nat} {D : Nat} (hD : 12 ≤ D) {rc : Hp → Nat → Int32 → Option Hp} {fu : Nat} {o : Nat} {x1 : Int32} (K : Kx E cX3_or RX3 (rmd (D + 8) 0 0)) (X : Bx E l yX3_or 3 none 0 0 ad (QV res)) (hrc : ∀ (l : Launch) (S : Hp) (o : Nat) (x : Int32) (S1 : Hp), rc S o x = some S1 → Ct l yX3_or cX3_or 3 none (rmd D 0 0) 0 0 [vR (some o), vI x] S (QV S1)) : ∀ (n : Nat) (S : Hp) (x2 : Int32), B_X3_or_7 rc fu o x1 n S x2 = some res → J E 0 0 7 [(0, vR (some o)), (1, vI x1), (2, vI x2)] [] S ad := by
  intro n
  induction n with
  | zero =>
    intro S x2 h
    cases h
  | succ n ih =>
    intro S x2 h
    exact wl_X3_or_7 hD K X hrc ih h
def F_X3_orB (rc : Hp → Nat → Int32 → Option Hp) (fu : Nat) (S : Hp) (o : Nat) (x1 : Int32) : Option (Hp) :=
  (ob S 2 (some o)).bind fun _ =>
  (F_X3_and rc fu S o x1).bind fun S2 =>
  B_X3_or_7 rc fu o x1 fu S2 (0 : Int32)
set_option maxRecDepth 100000 in
set_option maxHeartbeats 4000000 in
theorem w_X3_or {E : Cx} {l : Launch} {res : Hp} {ad : Nat → Nat} {D : Nat} (hD : 12 ≤ D) {rc : Hp → Nat → Int32 → Option Hp} {fu : Nat} {S : Hp} {o : Nat} {x1 : Int32} (K : Kx E cX3_or RX3 (rmd (D + 8) 0 0)) (X : Bx E l yX3_or 3 none 0 0 ad (QV res)) (hrc : ∀ (l : Launch) (S : Hp) (o : Nat) (x : Int32) (S1 : Hp), rc S o x = some S1 → Ct l yX3_or cX3_or 3 none (rmd D 0 0) 0 0 [vR (some o), vI x] S (QV S1)) (h : F_X3_orB rc fu S o x1 = some res) : J E 0 0 0 [(0, vR (some o)), (1, vI x1)] [] S ad := by
  refine j_aload_n K dX3_or_0 rfl 0 rfl ?_
  refine j_iload_n K dX3_or_1 rfl 1 rfl ?_
  obtain ⟨w2, ew2, h⟩ := bd h
  have ho2 := obS ew2
  obtain ⟨S2, e2, h⟩ := bd h
  refine j_cV (st := []) K (r_V (vs := [vI x1]) (n := 1) (o := o) K (c_X3_and hD hrc e2) ho2 (by decide) rfl dX3_or_2 z292 z294 zs8 z4 z295 ⟨zd_X3_and, rfl, rfl, rfl, ⟨(by simp only [rmd]; omega), (by simp only [rmd]; omega)⟩, Nat.le_of_ble_eq_true rfl, Nat.le_of_ble_eq_true rfl, Nat.le_of_ble_eq_true rfl⟩) rfl ?_
  refine j_iconst (v := (0 : Int32)) K dX3_or_5 (by decide) ?_
  refine j_istore_n (lv' := [(2, vI (0 : Int32)), (0, vR (some o)), (1, vI x1)]) K dX3_or_6 rfl X.2.2.1 (by decide) rfl ?_
  exact j_sub [1, 2, 0] rfl (w_X3_or_7 hD K X hrc _ _ _ h)
def F_X3_or (fu : Nat) : Nat → Hp → Nat → Int32 → Option Hp
  | 0 => fun _ _ _ => none
  | n + 1 => F_X3_orB (F_X3_or fu n) fu
theorem c_X3_or {fu : Nat} : ∀ (n : Nat) (l : Launch) (S : Hp) (o : Nat) (x : Int32) (S1 : Hp), F_X3_or fu n S o x = some S1 → Ct l yX3_or cX3_or 3 none (rmd (12 + 8 * n) 0 0) 0 0 [vR (some o), vI x] S (QV S1) := by
  intro n
  induction n with
  | zero =>
    intro l S o x S1 h
    cases h
  | succ n ih =>
    intro l S o x S1 h
    exact z_entry (by decide +kernel) (Nat.le_of_ble_eq_true rfl) (fun E ad K X => w_X3_or (D := 12 + 8 * n) (by omega) K X ih h)

theorem dX3_clause_0 : decode cX3_clause 0 = .ok (.aload_n 0, 1) ∧ 0 + 1 = 1 := ⟨by decide +kernel, rfl⟩
theorem dX3_clause_1 : decode cX3_clause 1 = .ok (.iload_n 2, 1) ∧ 1 + 1 = 2 := ⟨by decide +kernel, rfl⟩
theorem dX3_clause_2 : decode cX3_clause 2 = .ok (.invokevirtual 55, 3) := by decide +kernel
theorem dX3_clause_5 : decode cX3_clause 5 = .ok (.aload_n 0, 1) ∧ 5 + 1 = 6 := ⟨by decide +kernel, rfl⟩
theorem dX3_clause_6 : decode cX3_clause 6 = .ok (.iconst 0, 1) ∧ 6 + 1 = 7 := ⟨by decide +kernel, rfl⟩
theorem dX3_clause_7 : decode cX3_clause 7 = .ok (.invokevirtual 59, 3) := by decide +kernel
theorem dX3_clause_10 : decode cX3_clause 10 = .ok (.aload_n 0, 1) ∧ 10 + 1 = 11 := ⟨by decide +kernel, rfl⟩
theorem dX3_clause_11 : decode cX3_clause 11 = .ok (.bipush 59, 2) ∧ 11 + 2 = 13 := ⟨by decide +kernel, rfl⟩
theorem dX3_clause_13 : decode cX3_clause 13 = .ok (.invokevirtual 55, 3) := by decide +kernel
theorem dX3_clause_16 : decode cX3_clause 16 = .ok (.aload_n 0, 1) ∧ 16 + 1 = 17 := ⟨by decide +kernel, rfl⟩
theorem dX3_clause_17 : decode cX3_clause 17 = .ok (.getfield 25, 3) ∧ 17 + 3 = 20 := ⟨by decide +kernel, rfl⟩
theorem dX3_clause_20 : decode cX3_clause 20 = .ok (.iload_n 1, 1) ∧ 20 + 1 = 21 := ⟨by decide +kernel, rfl⟩
theorem dX3_clause_21 : decode cX3_clause 21 = .ok (.aload_n 0, 1) ∧ 21 + 1 = 22 := ⟨by decide +kernel, rfl⟩
theorem dX3_clause_22 : decode cX3_clause 22 = .ok (.getfield 22, 3) ∧ 22 + 3 = 25 := ⟨by decide +kernel, rfl⟩
theorem dX3_clause_25 : decode cX3_clause 25 = .ok (.invokestatic 62, 3) := by decide +kernel
theorem dX3_clause_28 : decode cX3_clause 28 = .ok (.return_, 1) := by decide +kernel
def F_X3_clause (fu : Nat) (S : Hp) (o : Nat) (x1 : Int32) (x2 : Int32) : Option (Hp) :=
  (ob S 2 (some o)).bind fun _ =>
  (F_X3_expect S o x2).bind fun S2 =>
  (ob S2 2 (some o)).bind fun _ =>
  (F_X3_or fu 7 S2 o (0 : Int32)).bind fun S7 =>
  (ob S7 2 (some o)).bind fun _ =>
  (F_X3_expect S7 o (59 : Int32)).bind fun S13 =>
  (gR S13 (some o) 2 5).bind fun v17 =>
  (gI S13 (some o) 2 4).bind fun v22 =>
  (F_X7_store S13 v17 x1 v22).bind fun S25 =>
  some S25
set_option maxRecDepth 100000 in
set_option maxHeartbeats 4000000 in
theorem w_X3_clause {E : Cx} {l : Launch} {res : Hp} {ad : Nat → Nat} {fu : Nat} {S : Hp} {o : Nat} {x1 : Int32} {x2 : Int32} (K : Kx E cX3_clause RX3 (rmd 69 0 0)) (X : Bx E l yX3_clause 3 none 0 0 ad (QV res)) (h : F_X3_clause fu S o x1 x2 = some res) : J E 0 0 0 [(0, vR (some o)), (1, vI x1), (2, vI x2)] [] S ad := by
  refine j_aload_n K dX3_clause_0 rfl 0 rfl ?_
  refine j_iload_n K dX3_clause_1 rfl 2 rfl ?_
  obtain ⟨w2, ew2, h⟩ := bd h
  have ho2 := obS ew2
  obtain ⟨S2, e2, h⟩ := bd h
  refine j_cV (st := []) K (r_V (vs := [vI x2]) (n := 1) (o := o) K (c_X3_expect e2) ho2 (by decide) rfl dX3_clause_2 z275 z277 zs4 z4 z278 ⟨zd_X3_expect, rfl, rfl, rfl, ⟨Nat.le_of_ble_eq_true rfl, Nat.le_of_ble_eq_true rfl⟩, Nat.le_of_ble_eq_true rfl, Nat.le_of_ble_eq_true rfl, Nat.le_of_ble_eq_true rfl⟩) rfl ?_
  refine j_aload_n K dX3_clause_5 rfl 0 rfl ?_
  refine j_iconst (v := (0 : Int32)) K dX3_clause_6 (by decide) ?_
  obtain ⟨w7, ew7, h⟩ := bd h
  have ho7 := obS ew7
  obtain ⟨S7, e7, h⟩ := bd h
  refine j_cV (st := []) K (r_V (vs := [vI (0 : Int32)]) (n := 1) (o := o) K (c_X3_or 7 _ _ _ _ _ e7) ho7 (by decide) rfl dX3_clause_7 z288 z290 zs7 z4 z291 ⟨zd_X3_or, rfl, rfl, rfl, ⟨Nat.le_of_ble_eq_true rfl, Nat.le_of_ble_eq_true rfl⟩, Nat.le_of_ble_eq_true rfl, Nat.le_of_ble_eq_true rfl, Nat.le_of_ble_eq_true rfl⟩) rfl ?_
  refine j_aload_n K dX3_clause_10 rfl 0 rfl ?_
  refine j_bipush (v := (59 : Int32)) K dX3_clause_11 (by decide) ?_
  obtain ⟨w13, ew13, h⟩ := bd h
  have ho13 := obS ew13
  obtain ⟨S13, e13, h⟩ := bd h
  refine j_cV (st := []) K (r_V (vs := [vI (59 : Int32)]) (n := 1) (o := o) K (c_X3_expect e13) ho13 (by decide) rfl dX3_clause_13 z275 z277 zs4 z4 z278 ⟨zd_X3_expect, rfl, rfl, rfl, ⟨Nat.le_of_ble_eq_true rfl, Nat.le_of_ble_eq_true rfl⟩, Nat.le_of_ble_eq_true rfl, Nat.le_of_ble_eq_true rfl, Nat.le_of_ble_eq_true rfl⟩) rfl ?_
  refine j_aload_n K dX3_clause_16 rfl 0 rfl ?_
  obtain ⟨v17, e17, h⟩ := bd h
  refine fgX3_25 K dX3_clause_17 e17 ?_
  refine j_iload_n K dX3_clause_20 rfl 1 rfl ?_
  refine j_aload_n K dX3_clause_21 rfl 0 rfl ?_
  obtain ⟨v22, e22, h⟩ := bd h
  refine fgX3_22 K dX3_clause_22 e22 ?_
  obtain ⟨S25, e25, h⟩ := bd h
  refine j_cV (st := []) K (r_SN (vs := [vR v17, vI x1, vI v22]) (n := 3) (host := RX7) K (c_X7_store e25) dX3_clause_25 (List.mem_of_getElem? (i := 6) rfl) z216 z1 z217 ⟨zd_X7_store, rfl, rfl, rfl, ⟨Nat.le_of_ble_eq_true rfl, Nat.le_of_ble_eq_true rfl⟩, Nat.le_of_ble_eq_true rfl, Nat.le_of_ble_eq_true rfl, Nat.le_of_ble_eq_true rfl⟩) rfl ?_
  exact j_vret K X dX3_clause_28 h
theorem c_X3_clause {l : Launch} {fu : Nat} {S : Hp} {o : Nat} {x1 : Int32} {x2 : Int32} {res : Hp} (h : F_X3_clause fu S o x1 x2 = some res) : Ct l yX3_clause cX3_clause 3 none (rmd 69 0 0) 0 0 [vR (some o), vI x1, vI x2] S (QV res) :=
  z_entry (by decide +kernel) (Nat.le_of_ble_eq_true rfl) (fun E ad K X => w_X3_clause K X h)
