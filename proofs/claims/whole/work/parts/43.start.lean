theorem st_world {p : Program} {s : State} {m : MethodId} {meth : Method} {c : Code} {b L : Nat} {xs : Nat → Int32} (C0 : lw_At p s m meth c b L xs) : ∃ (D : va_G) (g : Gt), KL p s m meth c b L xs D g := by
  obtain ⟨hx, hb, hr, hml, hown, hts, hX, hbl, hlocks, hgv⟩ := id C0
  have ht1 : ∀ w ∈ tables_1, w.before #[Value.ref b] s = true := fun w hw => hts w (List.mem_append_right _ hw)
  have htg : ∀ w ∈ lw_g, w.before #[Value.ref b] s = true := fun w hw => hts w (List.mem_filter.mp hw).1
  have hfl : ∀ q ∈ flG, q.before #[Value.ref b] s = true := flat_of_before _ hgv
  have hA : ∀ a : Nat, a < s.heap.size → ¬ AL s a := fun a h q => Nat.not_le.mpr h q
  obtain ⟨adK, adV, hS, hev⟩ := vk_Sof (N := 14) (tm := tmS) (len := zlen) (byt := zbyt) (A := AL s) (args := #[Value.ref b]) (s := s) (fun i hi => by have := zlen_small i hi; omega) (fun i hi => hfl _ (sg_ex i hi)) (fun i hi => hfl _ (sg_co i hi)) (fun i hi => hfl _ (sg_ar i hi)) (fun i hi => hfl _ (sg_le i hi)) (fun i hi j hj => hfl _ (sg_el i hi j hj)) (fun i j hi hj hij => (sg_ne i hi j hj hij).imp (hfl _) (hfl _)) hA
  obtain ⟨t14, he14, hT14⟩ := va_Tof (N := 6) (ty := .int) (f := fun j => .int (zkab.getD j 0)) (A := AL s) (by decide) (hfl _ sg_ka.1) (va_eqt (hfl _ sg_ka.2.1)) (fun j hj => va_eqt (hfl _ (sg_ka.2.2 j hj))) hA
  have hZ14 := va_Zof (A := AL s) (ht1 _ sg_lay.1) (ht1 _ sg_lay.2.2.2.1) he14 hA
  have hZcs := va_Zof (A := AL s) (ht1 _ sg_lay.2.1) (ht1 _ sg_lay.2.2.2.2.1) (va_eqi (hfl _ sg_cs)) hA
  have hZfm := va_Zqof (A := AL s) (ht1 _ sg_lay.2.2.1) (ht1 _ sg_lay.2.2.2.2.2) (hfl _ sg_fm) hA
  obtain ⟨t15, hF⟩ : ∃ t15 : Nat, va_Z "jdk/internal/util/Preconditions" "SIOOBE_FORMATTER" "Ljava/util/function/BiFunction;" .null (AL s) s s.heap ∨ va_Z "jdk/internal/util/Preconditions" "SIOOBE_FORMATTER" "Ljava/util/function/BiFunction;" (.ref t15) (AL s) s s.heap := by
    rcases hZfm with h | ⟨t, h⟩
    · exact ⟨0, Or.inl h⟩
    · exact ⟨t, Or.inr h⟩
  obtain ⟨cI, kI, compI, i1, i2, i3⟩ := Cond.arrayClass_spec (ht1 _ sg_over.2.2)
  obtain ⟨compL, cL, kL, l1, -, l3, l4, l5⟩ := Cond.arrayOver_spec (ht1 _ sg_over.1)
  obtain ⟨compS, cS, kS, s1, -, s3, s4, s5⟩ := Cond.arrayOver_spec (ht1 _ sg_over.2.1)
  obtain ⟨k0, n0, hk0⟩ := u_known (C := RX0) (T := TX0) (N := 15) (n := 15) htg zinX0 (htg _ z26)
  obtain ⟨k1, n1, hk1⟩ := u_known (C := RX2) (T := TX2) (N := 3) (n := 3) htg zinX2 (htg _ z337)
  obtain ⟨k2, n2, hk2⟩ := u_known (C := RX3) (T := TX3) (N := 6) (n := 6) htg zinX3 (htg _ z115)
  obtain ⟨k3, n3, hk3⟩ := u_known (C := RX4) (T := TX4) (N := 3) (n := 3) htg zinX4 (htg _ z144)
  obtain ⟨k4, n4, hk4⟩ := u_known (C := RX6) (T := TX6) (N := 5) (n := 5) htg zinX6 (htg _ z90)
  obtain ⟨k5, n5, hk5⟩ := u_known (C := RX7) (T := TX7) (N := 10) (n := 10) htg zinX7 (htg _ z18)
  obtain ⟨k6, n6, hk6⟩ := u_known (C := RX8) (T := TX8) (N := 37) (n := 37) htg zinX8 (htg _ z799)
  refine ⟨(fun k => [k0, k1, k2, k3, k4, k5, k6].getD k 0, fun k => [n0, n1, n2, n3, n4, n5, n6].getD k (fun _ => 0)), (cI, (cL, (cS, ((fun i => if i < 14 then adK i else if i = 14 then t14 else t15), adV)))), hx, hb, hr, hml, hown, htg, hX, hbl, hlocks, ⟨?_, ?_⟩, ?_⟩
  · intro k q hq
    match k, hq with
    | 0, hq => cases hq; exact hk0
    | 1, hq => cases hq; exact hk1
    | 2, hq => cases hq; exact hk2
    | 3, hq => cases hq; exact hk3
    | 4, hq => cases hq; exact hk4
    | 5, hq => cases hq; exact hk5
    | 6, hq => cases hq; exact hk6
    | k + 7, hq => simp [zcl] at hq
  · intro k q hq
    match k, hq with
    | 0, hq => cases hq; exact ⟨fun n z => ⟨(fun k h => by cases h), kI, i2, compI, i3⟩, i1⟩
    | 1, hq => cases hq; exact ⟨fun n z => ⟨(fun k h => by cases h), kL, l3, compL, l4⟩, kL, compL, l3, l4, l1, l5⟩
    | 2, hq => cases hq; exact ⟨fun n z => ⟨(fun k h => by cases h), kS, s3, compS, s4⟩, kS, compS, s3, s4, s1, s5⟩
    | k + 3, hq => simp [tyg] at hq
  · refine ⟨fun q hq => va_Nw.of rfl (ht1 _ (sg_nest q hq)), ⟨va_AO.of (ht1 _ sg_over.1), va_AO.of (ht1 _ sg_over.2.1)⟩, fun q hq => ?_, ⟨fun i hi => ?_, fun i j hi hj e => ?_⟩, hT14, hZ14, hZcs, hF⟩
    · obtain ⟨h1, h2, h3⟩ := sg_str q hq
      have e0 := hev q.2.2.2 h2
      rw [h3] at e0
      refine vk_R.of (ht1 _ h1) ?_
      rw [e0]
      simp [h2]
    · have := hS.1 i hi
      simpa [hi] using this
    · simp only [hi, hj, if_true] at e
      exact hS.2 i j hi hj e
theorem and63 (x : Int32) : 0 ≤ (x &&& 63).toInt ∧ (x &&& 63).toInt < 64 := by
  obtain ⟨j, hj, e⟩ := pk_andE x (m := 63) 6 (by decide)
  rw [e, nI_toInt (by omega)]
  omega
set_option maxRecDepth 100000 in
set_option maxHeartbeats 4000000 in
theorem law_loop {p : Program} {l : Launch} {e : Env} {s : State} {m : MethodId} {below : List Frame} {meth : Method} {c : Code} {b L : Nat} {xs : Nat → Int32} {D : va_G} {g : Gt} {Rel : Hp → Hp → Prop} {fu : Nat} (hL : L ≤ 3584) (K : KL p s m meth c b L xs D g) (hB : AllB Rel fu) :
    ∀ (n t : Nat) (SX SM : Hp) (adX adM : Nat → Nat), 7 * t ≤ L + 7 → L < 7 * (t + n) → Rel SX SM → JL p l e s m below meth c b D g (1000 + 4 * t) (10000 + 326 * t) 18 (nI (7 * t)) [] SX SM adX adM := by
  intro n
  induction n with
  | zero =>
    intro t SX SM adX adM h1 h2 hR
    intro hx0 hm0 hw1 hw2 H locs ls hP hD hS hl
    refine (?_ : JL p l e s m below meth c b D g (1000 + 4 * t) (10000 + 326 * t) 18 (nI (7 * t)) [] SX SM adX adM) hx0 hm0 hw1 hw2 H locs ls hP hD hS hl
    refine jl_i3 K dL_18 ?_
    refine jl_a0 K dL_19 ?_
    refine jl_len K dL_20 ?_
    refine jl_bip (v := 7) K dL_21 (by decide) ?_
    refine jl_isub K dL_23 ?_
    refine jl_gt (tgt := 1495) K dL_24 (by decide) (fun _ => ?_) (fun q => ?_)
    · refine jl_iconst (v := 1) K dL_1495 (by decide) ?_
      exact jl_end K dL_1496 (by omega) (by omega)
    · exfalso
      apply q
      have e1 : (nI L - 7).toInt = (L : Int) - 7 := pk_sub_toInt (b := 7) (by omega) (by decide)
      rw [Int32.lt_iff_toInt_lt]
      show (nI L - 7).toInt < _
      rw [e1, nI_toInt (by omega)]
      omega
  | succ n ih =>
    intro t SX SM adX adM h1 h2 hR
    have h0 := hB.1
    refine jl_i3 K dL_18 ?_
    refine jl_a0 K dL_19 ?_
    refine jl_len K dL_20 ?_
    refine jl_bip (v := 7) K dL_21 (by decide) ?_
    refine jl_isub K dL_23 ?_
    refine jl_gt (tgt := 1495) K dL_24 (by decide) (fun _ => ?_) (fun q => ?_)
    · refine jl_iconst (v := 1) K dL_1495 (by decide) ?_
      exact jl_end K dL_1496 (by omega) (by omega)
    · have hlt : 7 * t + 6 < L := by
        have e1 : (nI L - 7).toInt = (L : Int) - 7 := pk_sub_toInt (b := 7) (by omega) (by decide)
        rw [Int32.lt_iff_toInt_lt] at q
        have q : ¬ (nI L - 7).toInt < (nI (7 * t)).toInt := q
        rw [e1, nI_toInt (by omega)] at q
        omega
      have hi : ∀ v : Int32, 0 ≤ v → v ≤ 6 → vp_in (nI (7 * t) + v) L := by
        intro v v0 v6
        obtain ⟨j, hj, rfl⟩ := nI_of2 (x := v) (M := 6) (n := 6) rfl (Int32.not_lt.mpr v0) v6
        rw [nI_add]
        exact vp_in_nI (by omega) (by omega)
      have back : ∀ (SX1 SM1 : Hp) (adX1 : Nat → Nat), Rel SX1 SM1 → JL p l e s m below meth c b D g (1000 + 4 * (t + 1)) (10000 + 326 * (t + 1)) 1489 (nI (7 * t)) [] SX1 SM1 adX1 adM := by
        intro SX1 SM1 adX1 hR1
        refine jl_inc (v := nI (7 * (t + 1))) K dL_1489 (nI_add (7 * t) 7) ?_
        refine jl_goto (tgt := 18) K dL_1492 (by decide) ?_
        exact ih (t + 1) SX1 SM1 adX1 adM (by omega) (by omega) hR1
      refine jl_a0 K dL_27 ?_
      refine jl_i3 K dL_28 ?_
      refine jl_ld K dL_29 (vp_in_nI (by omega) (by omega)) ?_
      refine jl_bip (v := 63) K dL_30 (by decide) ?_
      refine jl_iand K dL_32 ?_
      have hr := and63 (xs (nI (7 * t)).toNatClampNeg)
      generalize xs (nI (7 * t)).toNatClampNeg &&& 63 = z at hr ⊢
      by_cases c0 : z.toInt = 0
      · refine jl_tin (tgt := 200) K dL_33 (by rw [c0]; decide) (by rw [c0]; decide) (by rw [c0]; rfl) (by decide) ?_
        exact cs_count K hB.2.1 h0 hR hi (by omega) (fun SX1 SM1 adX1 hR1 => jl_widen (by omega) (by omega) (back SX1 SM1 adX1 hR1))
      by_cases c1 : z.toInt = 1
      · refine jl_tin (tgt := 223) K dL_33 (by rw [c1]; decide) (by rw [c1]; decide) (by rw [c1]; rfl) (by decide) ?_
        exact cs_wrong K hB.2.2.1 h0 hR hi (by omega) (fun SX1 SM1 adX1 hR1 => jl_widen (by omega) (by omega) (back SX1 SM1 adX1 hR1))
      by_cases c2 : z.toInt = 2
      · refine jl_tin (tgt := 266) K dL_33 (by rw [c2]; decide) (by rw [c2]; decide) (by rw [c2]; rfl) (by decide) ?_
        exact cs_deed K hB.2.2.2.1 h0 hR hi (by omega) (fun SX1 SM1 adX1 hR1 => jl_widen (by omega) (by omega) (back SX1 SM1 adX1 hR1))
      by_cases c3 : z.toInt = 3
      · refine jl_tin (tgt := 299) K dL_33 (by rw [c3]; decide) (by rw [c3]; decide) (by rw [c3]; rfl) (by decide) ?_
        exact cs_amend K hB.2.2.2.2.1 h0 hR hi (by omega) (fun SX1 SM1 adX1 hR1 => jl_widen (by omega) (by omega) (back SX1 SM1 adX1 hR1))
      by_cases c4 : z.toInt = 4
      · refine jl_tin (tgt := 322) K dL_33 (by rw [c4]; decide) (by rw [c4]; decide) (by rw [c4]; rfl) (by decide) ?_
        exact cs_feed K hB.2.2.2.2.2.1 h0 hR hi (by omega) (fun SX1 SM1 adX1 hR1 => jl_widen (by omega) (by omega) (back SX1 SM1 adX1 hR1))
      by_cases c5 : z.toInt = 5
      · refine jl_tin (tgt := 397) K dL_33 (by rw [c5]; decide) (by rw [c5]; decide) (by rw [c5]; rfl) (by decide) ?_
        exact cs_text K hB.2.2.2.2.2.2.1 h0 hR hi (by omega) (fun SX1 SM1 adX1 hR1 => jl_widen (by omega) (by omega) (back SX1 SM1 adX1 hR1))
      by_cases c6 : z.toInt = 6
      · refine jl_tin (tgt := 410) K dL_33 (by rw [c6]; decide) (by rw [c6]; decide) (by rw [c6]; rfl) (by decide) ?_
        exact cs_force K hB.2.2.2.2.2.2.2.1 h0 hR hi (by omega) (fun SX1 SM1 adX1 hR1 => jl_widen (by omega) (by omega) (back SX1 SM1 adX1 hR1))
      by_cases c7 : z.toInt = 7
      · refine jl_tin (tgt := 433) K dL_33 (by rw [c7]; decide) (by rw [c7]; decide) (by rw [c7]; rfl) (by decide) ?_
        exact cs_asks K hB.2.2.2.2.2.2.2.2.1 h0 hR hi (by omega) (fun SX1 SM1 adX1 hR1 => jl_widen (by omega) (by omega) (back SX1 SM1 adX1 hR1))
      by_cases c8 : z.toInt = 8
      · refine jl_tin (tgt := 476) K dL_33 (by rw [c8]; decide) (by rw [c8]; decide) (by rw [c8]; rfl) (by decide) ?_
        exact cs_person K hB.2.2.2.2.2.2.2.2.2.1 h0 hR hi (by omega) (fun SX1 SM1 adX1 hR1 => jl_widen (by omega) (by omega) (back SX1 SM1 adX1 hR1))
      by_cases c9 : z.toInt = 9
      · refine jl_tin (tgt := 509) K dL_33 (by rw [c9]; decide) (by rw [c9]; decide) (by rw [c9]; rfl) (by decide) ?_
        exact cs_put K hB.2.2.2.2.2.2.2.2.2.2.1 h0 hR hi (by omega) (fun SX1 SM1 adX1 hR1 => jl_widen (by omega) (by omega) (back SX1 SM1 adX1 hR1))
      by_cases c10 : z.toInt = 10
      · refine jl_tin (tgt := 552) K dL_33 (by rw [c10]; decide) (by rw [c10]; decide) (by rw [c10]; rfl) (by decide) ?_
        exact cs_told K hB.2.2.2.2.2.2.2.2.2.2.2.1 h0 hR hi (by omega) (fun SX1 SM1 adX1 hR1 => jl_widen (by omega) (by omega) (back SX1 SM1 adX1 hR1))
      by_cases c11 : z.toInt = 11
      · refine jl_tin (tgt := 585) K dL_33 (by rw [c11]; decide) (by rw [c11]; decide) (by rw [c11]; rfl) (by decide) ?_
        exact cs_dusk K hB.2.2.2.2.2.2.2.2.2.2.2.2.1 h0 hR hi (by omega) (fun SX1 SM1 adX1 hR1 => jl_widen (by omega) (by omega) (back SX1 SM1 adX1 hR1))
      by_cases c12 : z.toInt = 12
      · refine jl_tin (tgt := 618) K dL_33 (by rw [c12]; decide) (by rw [c12]; decide) (by rw [c12]; rfl) (by decide) ?_
        exact cs_town K hB.2.2.2.2.2.2.2.2.2.2.2.2.2.1 h0 hR hi (by omega) (fun SX1 SM1 adX1 hR1 => jl_widen (by omega) (by omega) (back SX1 SM1 adX1 hR1))
      by_cases c13 : z.toInt = 13
      · refine jl_tin (tgt := 641) K dL_33 (by rw [c13]; decide) (by rw [c13]; decide) (by rw [c13]; rfl) (by decide) ?_
        exact cs_night K hB.2.2.2.2.2.2.2.2.2.2.2.2.2.2.1 h0 hR hi (by omega) (fun SX1 SM1 adX1 hR1 => jl_widen (by omega) (by omega) (back SX1 SM1 adX1 hR1))
      by_cases c14 : z.toInt = 14
      · refine jl_tin (tgt := 654) K dL_33 (by rw [c14]; decide) (by rw [c14]; decide) (by rw [c14]; rfl) (by decide) ?_
        exact cs_best K hB.2.2.2.2.2.2.2.2.2.2.2.2.2.2.2.1 h0 hR hi (by omega) (fun SX1 SM1 adX1 hR1 => jl_widen (by omega) (by omega) (back SX1 SM1 adX1 hR1))
      by_cases c15 : z.toInt = 15
      · refine jl_tin (tgt := 687) K dL_33 (by rw [c15]; decide) (by rw [c15]; decide) (by rw [c15]; rfl) (by decide) ?_
        exact cs_few K hB.2.2.2.2.2.2.2.2.2.2.2.2.2.2.2.2.1 h0 hR hi (by omega) (fun SX1 SM1 adX1 hR1 => jl_widen (by omega) (by omega) (back SX1 SM1 adX1 hR1))
      by_cases c16 : z.toInt = 16
      · refine jl_tin (tgt := 710) K dL_33 (by rw [c16]; decide) (by rw [c16]; decide) (by rw [c16]; rfl) (by decide) ?_
        exact cs_hire K hB.2.2.2.2.2.2.2.2.2.2.2.2.2.2.2.2.2.1 h0 hR hi (by omega) (fun SX1 SM1 adX1 hR1 => jl_widen (by omega) (by omega) (back SX1 SM1 adX1 hR1))
      by_cases c17 : z.toInt = 17
      · refine jl_tin (tgt := 743) K dL_33 (by rw [c17]; decide) (by rw [c17]; decide) (by rw [c17]; rfl) (by decide) ?_
        exact cs_away K hB.2.2.2.2.2.2.2.2.2.2.2.2.2.2.2.2.2.2.1 h0 hR hi (by omega) (fun SX1 SM1 adX1 hR1 => jl_widen (by omega) (by omega) (back SX1 SM1 adX1 hR1))
      by_cases c18 : z.toInt = 18
      · refine jl_tin (tgt := 766) K dL_33 (by rw [c18]; decide) (by rw [c18]; decide) (by rw [c18]; rfl) (by decide) ?_
        exact cs_undone K hB.2.2.2.2.2.2.2.2.2.2.2.2.2.2.2.2.2.2.2.1 h0 hR hi (by omega) (fun SX1 SM1 adX1 hR1 => jl_widen (by omega) (by omega) (back SX1 SM1 adX1 hR1))
      by_cases c19 : z.toInt = 19
      · refine jl_tin (tgt := 789) K dL_33 (by rw [c19]; decide) (by rw [c19]; decide) (by rw [c19]; rfl) (by decide) ?_
        exact cs_pair K hB.2.2.2.2.2.2.2.2.2.2.2.2.2.2.2.2.2.2.2.2.1 h0 hR hi (by omega) (fun SX1 SM1 adX1 hR1 => jl_widen (by omega) (by omega) (back SX1 SM1 adX1 hR1))
      by_cases c20 : z.toInt = 20
      · refine jl_tin (tgt := 812) K dL_33 (by rw [c20]; decide) (by rw [c20]; decide) (by rw [c20]; rfl) (by decide) ?_
        exact cs_guess K hB.2.2.2.2.2.2.2.2.2.2.2.2.2.2.2.2.2.2.2.2.2.1 h0 hR hi (by omega) (fun SX1 SM1 adX1 hR1 => jl_widen (by omega) (by omega) (back SX1 SM1 adX1 hR1))
      by_cases c21 : z.toInt = 21
      · refine jl_tin (tgt := 855) K dL_33 (by rw [c21]; decide) (by rw [c21]; decide) (by rw [c21]; rfl) (by decide) ?_
        exact cs_likely K hB.2.2.2.2.2.2.2.2.2.2.2.2.2.2.2.2.2.2.2.2.2.2.1 h0 hR hi (by omega) (fun SX1 SM1 adX1 hR1 => jl_widen (by omega) (by omega) (back SX1 SM1 adX1 hR1))
      by_cases c22 : z.toInt = 22
      · refine jl_tin (tgt := 909) K dL_33 (by rw [c22]; decide) (by rw [c22]; decide) (by rw [c22]; rfl) (by decide) ?_
        exact cs_share K hB.2.2.2.2.2.2.2.2.2.2.2.2.2.2.2.2.2.2.2.2.2.2.2.1 h0 hR hi (by omega) (fun SX1 SM1 adX1 hR1 => jl_widen (by omega) (by omega) (back SX1 SM1 adX1 hR1))
      by_cases c23 : z.toInt = 23
      · refine jl_tin (tgt := 943) K dL_33 (by rw [c23]; decide) (by rw [c23]; decide) (by rw [c23]; rfl) (by decide) ?_
        exact cs_judge K hB.2.2.2.2.2.2.2.2.2.2.2.2.2.2.2.2.2.2.2.2.2.2.2.2.1 h0 hR hi (by omega) (fun SX1 SM1 adX1 hR1 => jl_widen (by omega) (by omega) (back SX1 SM1 adX1 hR1))
      by_cases c24 : z.toInt = 24
      · refine jl_tin (tgt := 966) K dL_33 (by rw [c24]; decide) (by rw [c24]; decide) (by rw [c24]; rfl) (by decide) ?_
        exact cs_kinds K hB.2.2.2.2.2.2.2.2.2.2.2.2.2.2.2.2.2.2.2.2.2.2.2.2.2.1 h0 hR hi (by omega) (fun SX1 SM1 adX1 hR1 => jl_widen (by omega) (by omega) (back SX1 SM1 adX1 hR1))
      by_cases c25 : z.toInt = 25
      · refine jl_tin (tgt := 1009) K dL_33 (by rw [c25]; decide) (by rw [c25]; decide) (by rw [c25]; rfl) (by decide) ?_
        exact cs_prides K hB.2.2.2.2.2.2.2.2.2.2.2.2.2.2.2.2.2.2.2.2.2.2.2.2.2.2.1 h0 hR hi (by omega) (fun SX1 SM1 adX1 hR1 => jl_widen (by omega) (by omega) (back SX1 SM1 adX1 hR1))
      by_cases c26 : z.toInt = 26
      · refine jl_tin (tgt := 1052) K dL_33 (by rw [c26]; decide) (by rw [c26]; decide) (by rw [c26]; rfl) (by decide) ?_
        exact cs_whose K hB.2.2.2.2.2.2.2.2.2.2.2.2.2.2.2.2.2.2.2.2.2.2.2.2.2.2.2.1 h0 hR hi (by omega) (fun SX1 SM1 adX1 hR1 => jl_widen (by omega) (by omega) (back SX1 SM1 adX1 hR1))
      by_cases c27 : z.toInt = 27
      · refine jl_tin (tgt := 1095) K dL_33 (by rw [c27]; decide) (by rw [c27]; decide) (by rw [c27]; rfl) (by decide) ?_
        exact cs_laws K hB.2.2.2.2.2.2.2.2.2.2.2.2.2.2.2.2.2.2.2.2.2.2.2.2.2.2.2.2.1 h0 hR hi (by omega) (fun SX1 SM1 adX1 hR1 => jl_widen (by omega) (by omega) (back SX1 SM1 adX1 hR1))
      by_cases c28 : z.toInt = 28
      · refine jl_tin (tgt := 1118) K dL_33 (by rw [c28]; decide) (by rw [c28]; decide) (by rw [c28]; rfl) (by decide) ?_
        exact cs_film K hB.2.2.2.2.2.2.2.2.2.2.2.2.2.2.2.2.2.2.2.2.2.2.2.2.2.2.2.2.2.1 h0 hR hi (by omega) (fun SX1 SM1 adX1 hR1 => jl_widen (by omega) (by omega) (back SX1 SM1 adX1 hR1))
      by_cases c29 : z.toInt = 29
      · refine jl_tin (tgt := 1141) K dL_33 (by rw [c29]; decide) (by rw [c29]; decide) (by rw [c29]; rfl) (by decide) ?_
        exact cs_drawn K hB.2.2.2.2.2.2.2.2.2.2.2.2.2.2.2.2.2.2.2.2.2.2.2.2.2.2.2.2.2.2.1 h0 hR hi (by omega) (fun SX1 SM1 adX1 hR1 => jl_widen (by omega) (by omega) (back SX1 SM1 adX1 hR1))
      by_cases c30 : z.toInt = 30
      · refine jl_tin (tgt := 1174) K dL_33 (by rw [c30]; decide) (by rw [c30]; decide) (by rw [c30]; rfl) (by decide) ?_
        exact cs_odds K hB.2.2.2.2.2.2.2.2.2.2.2.2.2.2.2.2.2.2.2.2.2.2.2.2.2.2.2.2.2.2.2.1 h0 hR hi (by omega) (fun SX1 SM1 adX1 hR1 => jl_widen (by omega) (by omega) (back SX1 SM1 adX1 hR1))
      by_cases c31 : z.toInt = 31
      · refine jl_tin (tgt := 1228) K dL_33 (by rw [c31]; decide) (by rw [c31]; decide) (by rw [c31]; rfl) (by decide) ?_
        exact cs_image K hB.2.2.2.2.2.2.2.2.2.2.2.2.2.2.2.2.2.2.2.2.2.2.2.2.2.2.2.2.2.2.2.2.1 h0 hR hi (by omega) (fun SX1 SM1 adX1 hR1 => jl_widen (by omega) (by omega) (back SX1 SM1 adX1 hR1))
      by_cases c32 : z.toInt = 32
      · refine jl_tin (tgt := 1241) K dL_33 (by rw [c32]; decide) (by rw [c32]; decide) (by rw [c32]; rfl) (by decide) ?_
        exact cs_back K hB.2.2.2.2.2.2.2.2.2.2.2.2.2.2.2.2.2.2.2.2.2.2.2.2.2.2.2.2.2.2.2.2.2.1 h0 hR hi (by omega) (fun SX1 SM1 adX1 hR1 => jl_widen (by omega) (by omega) (back SX1 SM1 adX1 hR1))
      by_cases c33 : z.toInt = 33
      · refine jl_tin (tgt := 1254) K dL_33 (by rw [c33]; decide) (by rw [c33]; decide) (by rw [c33]; rfl) (by decide) ?_
        exact cs_sheet K hB.2.2.2.2.2.2.2.2.2.2.2.2.2.2.2.2.2.2.2.2.2.2.2.2.2.2.2.2.2.2.2.2.2.2.1 h0 hR hi (by omega) (fun SX1 SM1 adX1 hR1 => jl_widen (by omega) (by omega) (back SX1 SM1 adX1 hR1))
      by_cases c34 : z.toInt = 34
      · refine jl_tin (tgt := 1297) K dL_33 (by rw [c34]; decide) (by rw [c34]; decide) (by rw [c34]; rfl) (by decide) ?_
        exact cs_cell K hB.2.2.2.2.2.2.2.2.2.2.2.2.2.2.2.2.2.2.2.2.2.2.2.2.2.2.2.2.2.2.2.2.2.2.2.1 h0 hR hi (by omega) (fun SX1 SM1 adX1 hR1 => jl_widen (by omega) (by omega) (back SX1 SM1 adX1 hR1))
      by_cases c35 : z.toInt = 35
      · refine jl_tin (tgt := 1340) K dL_33 (by rw [c35]; decide) (by rw [c35]; decide) (by rw [c35]; rfl) (by decide) ?_
        exact cs_copy K hB.2.2.2.2.2.2.2.2.2.2.2.2.2.2.2.2.2.2.2.2.2.2.2.2.2.2.2.2.2.2.2.2.2.2.2.2.1 h0 hR hi (by omega) (fun SX1 SM1 adX1 hR1 => jl_widen (by omega) (by omega) (back SX1 SM1 adX1 hR1))
      by_cases c36 : z.toInt = 36
      · refine jl_tin (tgt := 1403) K dL_33 (by rw [c36]; decide) (by rw [c36]; decide) (by rw [c36]; rfl) (by decide) ?_
        exact cs_peopleBy K hB.2.2.2.2.2.2.2.2.2.2.2.2.2.2.2.2.2.2.2.2.2.2.2.2.2.2.2.2.2.2.2.2.2.2.2.2.2.1 h0 hR hi (by omega) (fun SX1 SM1 adX1 hR1 => jl_widen (by omega) (by omega) (back SX1 SM1 adX1 hR1))
      by_cases c37 : z.toInt = 37
      · refine jl_tin (tgt := 1456) K dL_33 (by rw [c37]; decide) (by rw [c37]; decide) (by rw [c37]; rfl) (by decide) ?_
        exact cs_taken K hB.2.2.2.2.2.2.2.2.2.2.2.2.2.2.2.2.2.2.2.2.2.2.2.2.2.2.2.2.2.2.2.2.2.2.2.2.2.2 h0 hR hi (by omega) (fun SX1 SM1 adX1 hR1 => jl_widen (by omega) (by omega) (back SX1 SM1 adX1 hR1))
      refine jl_tout (tgt := 1489) K dL_33 (Or.inr (by omega)) (by decide) ?_
      exact jl_widen (by omega) (by omega) (back SX SM adX hR)
/-- the heap with one new object of kind t -/
def hp1 (t : Nat) : Hp := mk (0, (fun _ => (0, 0)), (fun _ _ => 0), (fun _ _ => none)) t 0
theorem hp1_W {g : Gt} {t q : Nat} (ht : t < 7) : Wl g (fun _ => q) (hp1 t) = [(q, .inr (t, zfl (fun _ => .int 0) (fun _ => .null) (zk t) 0))] := by
  have e : zE g (fun _ => q) (hp1 t) 0 = .inr (t, zfl (fun _ => .int 0) (fun _ => .null) (zk t) 0) := by
    rw [zE_obj (t := t) (by simp [hp1, mk]) ht]
    simp [hp1, mk, va_rf]
  simp only [Wl, show (hp1 t).1 = 1 from rfl, List.range_one, List.map_cons, List.map_nil]
  rw [e]
theorem hp1_zW {t : Nat} : zW (hp1 t) := zW_mk (fun k j r h => by cases h)
set_option maxRecDepth 100000 in
set_option maxHeartbeats 4000000 in
theorem start_go {p : Program} {e : Env} {s : State} {m : MethodId} {below : List Frame} {meth : Method} {c : Code} (l : Launch) {b L : Nat} {xs : Nat → Int32} {Rel : Hp → Hp → Prop} {fu : Nat} (hB : AllB Rel fu) {SX SM : Hp} (hXi : F_X7_init fu (hp1 5) 0 = some SX) (hMi : F_X8_init fu (hp1 6) 0 = some SM) (hR : Rel SX SM) (hL : L ≤ 3584) (C0 : lw_At p s m meth c b L xs) : W p l e room_1 s m #[Value.ref b] below meth c s.heap [] 0 0 (lw_Z below #[Value.ref b] s) (entryFrame m ([Value.ref b] : List Value).toArray 4) := by
  obtain ⟨D, g, K⟩ := st_world C0
  obtain ⟨hx, hb, hr, hml, hown, hts, hX, hbl, hlocks, hK, hG⟩ := id K
  have hA : ∀ q : Nat, s.heap.size ≤ q → AL s q := fun _ h => h
  have hS : va_S (AL s) s.heap s.heap [] := va_S.rf
  have hP : va_P D zcl [] s.heap := fun k q h => by simp at h
  have hD : va_D (AL s) [] := ⟨fun i j p q h => by simp at h, fun k q h => by simp at h⟩
  have hl := lv_entry ([.ref b]) (n := 4) (Nat.le_of_ble_eq_true rfl)
  rw [lg_entry_eq]
  generalize (lg_sl ([.ref b]) ++ List.replicate (4 - (lg_sl ([.ref b])).length) Slot.unset).toArray = ls at hl ⊢
  have hl : lv_has ls 4 [(0, .ref b)] := hl
  have iX0 := hB.1 SX SM hR
  refine va_new (ci := 5) (fs := zfl (fun _ => .int 0) (fun _ => .null) (zk 5) 0) hx hb hts zinX7 tyX7 tyX7_ok hown (hts _ z17) (hts _ z18) (hts _ z1) hK hP hD hS hA rfl zdf_5 (Nat.le_of_ble_eq_true rfl) (Nat.le_of_ble_eq_true rfl) dL_0 (fun q H hP hD hS => ?_)
  refine lv_dup hx hb dL_3 rfl ?_
  rw [List.nil_append, ← hp1_W (g := g) (t := 5) (by decide)] at hP hD
  -- the class's own start
  have hAin : ∀ {w : va_W} {H : Heap} {locs : List Loc}, va_D (AL s) w → va_S (AL s) s.heap H locs → ∀ q, va_A w H.size q → AL s q := fun hD hS => AL_in hD hS
  refine va_callv (A0 := AL s) (va_runI (As := []) (b := q) (rest := [.ref q]) (n := 0) ⟨hx, hb, hml, hown, hts⟩ (c_X7_init hXi D g (fun _ => q) H.size) ⟨callB_of 0 hts (good_g z21) rfl rfl rfl (hts _ z1) (hts _ z19) zd_X7_init ⟨by decide, by decide⟩, rfl, hts _ z20⟩ ⟨Wst_blind, fun U hU hW => ⟨rfl, by rw [hU], by rw [hU]; exact hP, va_K.moved hW.alike hK, hD.weaken (fun _ _ _ _ => trivial), hp1_zW, hG.call hS hU hW (hAin hD hS)⟩⟩ rfl rfl hl.1 rfl (lv_room (Nat.le_of_ble_eq_true rfl)) dL_4 ⟨by decide, by decide⟩) hS (fun q _ h => hAin hD hS q h) (hAin hD hS) (fun adX t H1 locs1 ht hvm hxe hQ hz hk hS1 => ?_)
  obtain ⟨b1, b2, wX⟩ := hQ
  rw [ht] at b1
  have eX : adX 0 = q := hxe 0 (by decide)
  have b2 := b2.weaken (B := AL s) (fun _ r _ hr => hAin hD hS r.1 hr)
  clear hP hD hS hk
  refine lv_astore_n (lv' := [(1, .ref q), (0, .ref b)]) hx hb dL_7 rfl hl (by decide) rfl (fun ls hl => ?_)
  refine va_new (ci := 6) (fs := zfl (fun _ => .int 0) (fun _ => .null) (zk 6) 0) hx hb hts zinX8 tyX8 tyX8_ok hown (hts _ z798) (hts _ z799) (hts _ z13) hK b1 b2 hS1 hA rfl zdf_6 (Nat.le_of_ble_eq_true rfl) (Nat.le_of_ble_eq_true rfl) dL_8 (fun q2 H2 hP hD hS => ?_)
  refine lv_dup hx hb dL_11 rfl ?_
  rw [← hp1_W (g := g) (t := 6) (by decide)] at hP hD
  have hP2 := wl_right hP
  have hD2 := wd_right hD
  refine va_callv (A0 := AL s) (va_runI (As := []) (b := q2) (rest := [.ref q2]) (n := 0) ⟨hx, hb, hml, hown, hts⟩ (c_X8_init hMi D g (fun _ => q2) H2.size) ⟨callB_of 0 hts (good_g z802) rfl rfl rfl (hts _ z13) (hts _ z800) zd_X8_init ⟨by decide, by decide⟩, rfl, hts _ z801⟩ ⟨Wst_blind, fun U hU hW => ⟨rfl, by rw [hU], by rw [hU]; exact hP2, va_K.moved hW.alike hK, hD2.weaken (fun _ _ _ _ => trivial), hp1_zW, hG.call hS hU hW (hAin hD2 hS)⟩⟩ rfl rfl hl.1 rfl (lv_room (Nat.le_of_ble_eq_true rfl)) dL_12 ⟨by decide, by decide⟩) hS (fun q _ h => hAin hD2 hS q h) (hAin hD2 hS) (fun adM t H3 locs3 ht hvm hme hQ hz hk hS3 => ?_)
  obtain ⟨d1, d2, wM⟩ := hQ
  rw [ht] at d1
  have eM : adM 0 = q2 := hme 0 (by decide)
  obtain ⟨j1, j2, j3, j4⟩ := wl_join (swapP hP) (swapD hD) (hAin hD2 hS) hk d1 d2
  have hPn := swapP (d1.app j1)
  have hDn := swapD (j2.app j3 j4)
  refine lv_astore_n (lv' := [(2, .ref q2), (1, .ref q), (0, .ref b)]) hx hb dL_15 rfl hl (by decide) rfl (fun ls hl => ?_)
  refine lv_iconst (v := 0) hx hb dL_16 (by decide) ?_
  refine lv_istore_n (lv' := [(3, .int 0), (2, .ref q2), (1, .ref q), (0, .ref b)]) hx hb dL_17 rfl hl (by decide) rfl (fun ls hl => ?_)
  refine W.widen (k := 1000 + 4 * 0) (n := 10000 + 326 * 0) (by decide) (by decide) ?_
  refine law_loop (l := l) (e := e) (below := below) hL K hB (L + 1) 0 SX SM adX adM (by omega) (by omega) hR iX0.1 iX0.2 wX wM H3 locs3 ls hPn hDn hS3 (lv_sub hl [3, 2, 1, 0] (by simp [lv_pick, lvL, eX, eM, nI_0]))
