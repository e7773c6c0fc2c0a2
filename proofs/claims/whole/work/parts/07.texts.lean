theorem dJ0_length_8abf5_0 : decode cJ0_length_8abf5 0 = .ok (.aload_n 0, 1) ∧ 0 + 1 = 1 := ⟨by decide +kernel, rfl⟩
theorem dJ0_length_8abf5_1 : decode cJ0_length_8abf5 1 = .ok (.getfield 9, 3) ∧ 1 + 3 = 4 := ⟨by decide +kernel, rfl⟩
theorem dJ0_length_8abf5_4 : decode cJ0_length_8abf5 4 = .ok (.arraylength, 1) ∧ 4 + 1 = 5 := ⟨by decide +kernel, rfl⟩
theorem dJ0_length_8abf5_5 : decode cJ0_length_8abf5 5 = .ok (.aload_n 0, 1) ∧ 5 + 1 = 6 := ⟨by decide +kernel, rfl⟩
theorem dJ0_length_8abf5_6 : decode cJ0_length_8abf5 6 = .ok (.invokevirtual 335, 3) := by decide +kernel
theorem dJ0_length_8abf5_9 : decode cJ0_length_8abf5 9 = .ok (.ishr, 1) ∧ 9 + 1 = 10 := ⟨by decide +kernel, rfl⟩
theorem dJ0_length_8abf5_10 : decode cJ0_length_8abf5 10 = .ok (.ireturn, 1) := by decide +kernel
theorem dJ0_charAt_5068e_0 : decode cJ0_charAt_5068e 0 = .ok (.aload_n 0, 1) ∧ 0 + 1 = 1 := ⟨by decide +kernel, rfl⟩
theorem dJ0_charAt_5068e_1 : decode cJ0_charAt_5068e 1 = .ok (.invokevirtual 492, 3) := by decide +kernel
theorem dJ0_charAt_5068e_4 : decode cJ0_charAt_5068e 4 = .ok (.ifCond .eq 12, 3) ∧ 4 + 3 = 7 ∧ ((4 : Nat) : Int) + (12) = ((16 : Nat) : Int) := ⟨by decide +kernel, rfl, by decide⟩
theorem dJ0_charAt_5068e_7 : decode cJ0_charAt_5068e 7 = .ok (.aload_n 0, 1) ∧ 7 + 1 = 8 := ⟨by decide +kernel, rfl⟩
theorem dJ0_charAt_5068e_8 : decode cJ0_charAt_5068e 8 = .ok (.getfield 9, 3) ∧ 8 + 3 = 11 := ⟨by decide +kernel, rfl⟩
theorem dJ0_charAt_5068e_11 : decode cJ0_charAt_5068e 11 = .ok (.iload_n 1, 1) ∧ 11 + 1 = 12 := ⟨by decide +kernel, rfl⟩
theorem dJ0_charAt_5068e_12 : decode cJ0_charAt_5068e 12 = .ok (.invokestatic 495, 3) := by decide +kernel
theorem dJ0_charAt_5068e_15 : decode cJ0_charAt_5068e 15 = .ok (.ireturn, 1) := by decide +kernel
theorem dJ0_charAt_5068e_16 : decode cJ0_charAt_5068e 16 = .ok (.aload_n 0, 1) ∧ 16 + 1 = 17 := ⟨by decide +kernel, rfl⟩
theorem dJ0_charAt_5068e_17 : decode cJ0_charAt_5068e 17 = .ok (.getfield 9, 3) ∧ 17 + 3 = 20 := ⟨by decide +kernel, rfl⟩
theorem dJ0_charAt_5068e_20 : decode cJ0_charAt_5068e 20 = .ok (.iload_n 1, 1) ∧ 20 + 1 = 21 := ⟨by decide +kernel, rfl⟩
theorem dJ0_charAt_5068e_21 : decode cJ0_charAt_5068e 21 = .ok (.invokestatic 498, 3) := by decide +kernel
theorem dJ0_charAt_5068e_24 : decode cJ0_charAt_5068e 24 = .ok (.ireturn, 1) := by decide +kernel
theorem dJ0_coder_7d493_0 : decode cJ0_coder_7d493 0 = .ok (.getstatic 38, 3) ∧ 0 + 3 = 3 := ⟨by decide +kernel, rfl⟩
theorem dJ0_coder_7d493_3 : decode cJ0_coder_7d493 3 = .ok (.ifCond .eq 10, 3) ∧ 3 + 3 = 6 ∧ ((3 : Nat) : Int) + (10) = ((13 : Nat) : Int) := ⟨by decide +kernel, rfl, by decide⟩
theorem dJ0_coder_7d493_6 : decode cJ0_coder_7d493 6 = .ok (.aload_n 0, 1) ∧ 6 + 1 = 7 := ⟨by decide +kernel, rfl⟩
theorem dJ0_coder_7d493_7 : decode cJ0_coder_7d493 7 = .ok (.getfield 15, 3) ∧ 7 + 3 = 10 := ⟨by decide +kernel, rfl⟩
theorem dJ0_coder_7d493_10 : decode cJ0_coder_7d493 10 = .ok (.goto 4, 3) ∧ ((10 : Nat) : Int) + (4) = ((14 : Nat) : Int) := ⟨by decide +kernel, by decide⟩
theorem dJ0_coder_7d493_13 : decode cJ0_coder_7d493 13 = .ok (.iconst 1, 1) ∧ 13 + 1 = 14 := ⟨by decide +kernel, rfl⟩
theorem dJ0_coder_7d493_14 : decode cJ0_coder_7d493 14 = .ok (.ireturn, 1) := by decide +kernel
theorem dJ0_isLatin1_aae02_0 : decode cJ0_isLatin1_aae02 0 = .ok (.getstatic 38, 3) ∧ 0 + 3 = 3 := ⟨by decide +kernel, rfl⟩
theorem dJ0_isLatin1_aae02_3 : decode cJ0_isLatin1_aae02 3 = .ok (.ifCond .eq 14, 3) ∧ 3 + 3 = 6 ∧ ((3 : Nat) : Int) + (14) = ((17 : Nat) : Int) := ⟨by decide +kernel, rfl, by decide⟩
theorem dJ0_isLatin1_aae02_6 : decode cJ0_isLatin1_aae02 6 = .ok (.aload_n 0, 1) ∧ 6 + 1 = 7 := ⟨by decide +kernel, rfl⟩
theorem dJ0_isLatin1_aae02_7 : decode cJ0_isLatin1_aae02 7 = .ok (.getfield 15, 3) ∧ 7 + 3 = 10 := ⟨by decide +kernel, rfl⟩
theorem dJ0_isLatin1_aae02_10 : decode cJ0_isLatin1_aae02 10 = .ok (.ifCond .ne 7, 3) ∧ 10 + 3 = 13 ∧ ((10 : Nat) : Int) + (7) = ((17 : Nat) : Int) := ⟨by decide +kernel, rfl, by decide⟩
theorem dJ0_isLatin1_aae02_13 : decode cJ0_isLatin1_aae02 13 = .ok (.iconst 1, 1) ∧ 13 + 1 = 14 := ⟨by decide +kernel, rfl⟩
theorem dJ0_isLatin1_aae02_14 : decode cJ0_isLatin1_aae02 14 = .ok (.goto 4, 3) ∧ ((14 : Nat) : Int) + (4) = ((18 : Nat) : Int) := ⟨by decide +kernel, by decide⟩
theorem dJ0_isLatin1_aae02_17 : decode cJ0_isLatin1_aae02 17 = .ok (.iconst 0, 1) ∧ 17 + 1 = 18 := ⟨by decide +kernel, rfl⟩
theorem dJ0_isLatin1_aae02_18 : decode cJ0_isLatin1_aae02 18 = .ok (.ireturn, 1) := by decide +kernel
theorem dJ0_checkIndex_df160_0 : decode cJ0_checkIndex_df160 0 = .ok (.iload_n 0, 1) ∧ 0 + 1 = 1 := ⟨by decide +kernel, rfl⟩
theorem dJ0_checkIndex_df160_1 : decode cJ0_checkIndex_df160 1 = .ok (.iload_n 1, 1) ∧ 1 + 1 = 2 := ⟨by decide +kernel, rfl⟩
theorem dJ0_checkIndex_df160_2 : decode cJ0_checkIndex_df160 2 = .ok (.getstatic 1053, 3) ∧ 2 + 3 = 5 := ⟨by decide +kernel, rfl⟩
theorem dJ0_checkIndex_df160_5 : decode cJ0_checkIndex_df160 5 = .ok (.invokestatic 1059, 3) := by decide +kernel
theorem dJ0_checkIndex_df160_8 : decode cJ0_checkIndex_df160 8 = .ok (.pop, 1) ∧ 8 + 1 = 9 := ⟨by decide +kernel, rfl⟩
theorem dJ0_checkIndex_df160_9 : decode cJ0_checkIndex_df160 9 = .ok (.return_, 1) := by decide +kernel
theorem dJ1_charAt_3b067_0 : decode cJ1_charAt_3b067 0 = .ok (.iload_n 1, 1) ∧ 0 + 1 = 1 := ⟨by decide +kernel, rfl⟩
theorem dJ1_charAt_3b067_1 : decode cJ1_charAt_3b067 1 = .ok (.aload_n 0, 1) ∧ 1 + 1 = 2 := ⟨by decide +kernel, rfl⟩
theorem dJ1_charAt_3b067_2 : decode cJ1_charAt_3b067 2 = .ok (.arraylength, 1) ∧ 2 + 1 = 3 := ⟨by decide +kernel, rfl⟩
theorem dJ1_charAt_3b067_3 : decode cJ1_charAt_3b067 3 = .ok (.invokestatic 9, 3) := by decide +kernel
theorem dJ1_charAt_3b067_6 : decode cJ1_charAt_3b067 6 = .ok (.aload_n 0, 1) ∧ 6 + 1 = 7 := ⟨by decide +kernel, rfl⟩
theorem dJ1_charAt_3b067_7 : decode cJ1_charAt_3b067 7 = .ok (.iload_n 1, 1) ∧ 7 + 1 = 8 := ⟨by decide +kernel, rfl⟩
theorem dJ1_charAt_3b067_8 : decode cJ1_charAt_3b067 8 = .ok (.baload, 1) ∧ 8 + 1 = 9 := ⟨by decide +kernel, rfl⟩
theorem dJ1_charAt_3b067_9 : decode cJ1_charAt_3b067 9 = .ok (.sipush 255, 3) ∧ 9 + 3 = 12 := ⟨by decide +kernel, rfl⟩
theorem dJ1_charAt_3b067_12 : decode cJ1_charAt_3b067 12 = .ok (.iand, 1) ∧ 12 + 1 = 13 := ⟨by decide +kernel, rfl⟩
theorem dJ1_charAt_3b067_13 : decode cJ1_charAt_3b067 13 = .ok (.i2c, 1) ∧ 13 + 1 = 14 := ⟨by decide +kernel, rfl⟩
theorem dJ1_charAt_3b067_14 : decode cJ1_charAt_3b067 14 = .ok (.ireturn, 1) := by decide +kernel
theorem dJ3_checkIndex_8e157_0 : decode cJ3_checkIndex_8e157 0 = .ok (.iload_n 0, 1) ∧ 0 + 1 = 1 := ⟨by decide +kernel, rfl⟩
theorem dJ3_checkIndex_8e157_1 : decode cJ3_checkIndex_8e157 1 = .ok (.ifCond .lt 8, 3) ∧ 1 + 3 = 4 ∧ ((1 : Nat) : Int) + (8) = ((9 : Nat) : Int) := ⟨by decide +kernel, rfl, by decide⟩
theorem dJ3_checkIndex_8e157_4 : decode cJ3_checkIndex_8e157 4 = .ok (.iload_n 0, 1) ∧ 4 + 1 = 5 := ⟨by decide +kernel, rfl⟩
theorem dJ3_checkIndex_8e157_5 : decode cJ3_checkIndex_8e157 5 = .ok (.iload_n 1, 1) ∧ 5 + 1 = 6 := ⟨by decide +kernel, rfl⟩
theorem dJ3_checkIndex_8e157_6 : decode cJ3_checkIndex_8e157 6 = .ok (.if_icmp .lt 10, 3) ∧ 6 + 3 = 9 ∧ ((6 : Nat) : Int) + (10) = ((16 : Nat) : Int) := ⟨by decide +kernel, rfl, by decide⟩
theorem dJ3_checkIndex_8e157_16 : decode cJ3_checkIndex_8e157 16 = .ok (.iload_n 0, 1) ∧ 16 + 1 = 17 := ⟨by decide +kernel, rfl⟩
theorem dJ3_checkIndex_8e157_17 : decode cJ3_checkIndex_8e157 17 = .ok (.ireturn, 1) := by decide +kernel
theorem dX7_at_0 : decode cX7_at 0 = .ok (.iload_n 1, 1) ∧ 0 + 1 = 1 := ⟨by decide +kernel, rfl⟩
theorem dX7_at_1 : decode cX7_at 1 = .ok (.ifCond .lt 15, 3) ∧ 1 + 3 = 4 ∧ ((1 : Nat) : Int) + (15) = ((16 : Nat) : Int) := ⟨by decide +kernel, rfl, by decide⟩
theorem dX7_at_4 : decode cX7_at 4 = .ok (.iload_n 1, 1) ∧ 4 + 1 = 5 := ⟨by decide +kernel, rfl⟩
theorem dX7_at_5 : decode cX7_at 5 = .ok (.aload_n 0, 1) ∧ 5 + 1 = 6 := ⟨by decide +kernel, rfl⟩
theorem dX7_at_6 : decode cX7_at 6 = .ok (.arraylength, 1) ∧ 6 + 1 = 7 := ⟨by decide +kernel, rfl⟩
theorem dX7_at_7 : decode cX7_at 7 = .ok (.if_icmp .ge 9, 3) ∧ 7 + 3 = 10 ∧ ((7 : Nat) : Int) + (9) = ((16 : Nat) : Int) := ⟨by decide +kernel, rfl, by decide⟩
theorem dX7_at_10 : decode cX7_at 10 = .ok (.aload_n 0, 1) ∧ 10 + 1 = 11 := ⟨by decide +kernel, rfl⟩
theorem dX7_at_11 : decode cX7_at 11 = .ok (.iload_n 1, 1) ∧ 11 + 1 = 12 := ⟨by decide +kernel, rfl⟩
theorem dX7_at_12 : decode cX7_at 12 = .ok (.iaload, 1) ∧ 12 + 1 = 13 := ⟨by decide +kernel, rfl⟩
theorem dX7_at_13 : decode cX7_at 13 = .ok (.goto 4, 3) ∧ ((13 : Nat) : Int) + (4) = ((17 : Nat) : Int) := ⟨by decide +kernel, by decide⟩
theorem dX7_at_16 : decode cX7_at 16 = .ok (.iconst 0, 1) ∧ 16 + 1 = 17 := ⟨by decide +kernel, rfl⟩
theorem dX7_at_17 : decode cX7_at 17 = .ok (.ireturn, 1) := by decide +kernel

theorem c_coder {l : Launch} {S : Hp} {i : Nat} (hi : i < 14) : Ct l yJ0_coder_7d493 cJ0_coder_7d493 1 (some .byte) (rmd 0 0 0) 0 0 [vK i] S (QI (0, S)) :=
  z_entry (by decide +kernel) (Nat.le_of_ble_eq_true rfl) (fun E ad K X => by
    refine j_getsC K dJ0_coder_7d493_0 rfl z171 ?_
    refine j_if_eq K dJ0_coder_7d493_3 (fun c => absurd c (by decide)) (fun c => ?_)
    refine j_aload_nK K dJ0_coder_7d493_6 rfl 0 rfl ?_
    refine j_strC K hi dJ0_coder_7d493_7 rfl z1245 ?_
    refine j_goto K dJ0_coder_7d493_10 ?_
    exact j_nret K X dJ0_coder_7d493_14 rfl rfl)
theorem c_lat {l : Launch} {S : Hp} {i : Nat} (hi : i < 14) : Ct l yJ0_isLatin1_aae02 cJ0_isLatin1_aae02 1 (some .boolean) (rmd 0 0 0) 0 0 [vK i] S (QI (1, S)) :=
  z_entry (by decide +kernel) (Nat.le_of_ble_eq_true rfl) (fun E ad K X => by
    refine j_getsC K dJ0_isLatin1_aae02_0 rfl z171 ?_
    refine j_if_eq K dJ0_isLatin1_aae02_3 (fun c => absurd c (by decide)) (fun c => ?_)
    refine j_aload_nK K dJ0_isLatin1_aae02_6 rfl 0 rfl ?_
    refine j_strC K hi dJ0_isLatin1_aae02_7 rfl z1245 ?_
    refine j_if_ne K dJ0_isLatin1_aae02_10 (fun c => absurd rfl c) (fun c => ?_)
    refine j_iconst (v := 1) K dJ0_isLatin1_aae02_13 (by decide) ?_
    refine j_goto K dJ0_isLatin1_aae02_14 ?_
    exact j_zret K X dJ0_isLatin1_aae02_18 rfl)
theorem c_slen {l : Launch} {S : Hp} {i : Nat} {v : Int32} (h : sLen i = some v) : Ct l yJ0_length_8abf5 cJ0_length_8abf5 1 (some .int) (rmd 1 0 0) 0 0 [vK i] S (QI (v, S)) := by
  have hi := sLen_lt h
  have hv := Option.some.inj (it hi h)
  refine z_entry (by decide +kernel) (Nat.le_of_ble_eq_true rfl) (fun E ad K X => ?_)
  refine j_aload_nK K dJ0_length_8abf5_0 rfl 0 rfl ?_
  refine j_strV K hi dJ0_length_8abf5_1 rfl z1244 ?_
  refine j_lenB K hi dJ0_length_8abf5_4 ?_
  refine j_aload_nK K dJ0_length_8abf5_5 rfl 0 rfl ?_
  refine j_cI (st := [vI _]) K (r_VK (vs := []) (n := 0) K (c_coder hi) hi dJ0_length_8abf5_6 z167 z168 z169 z6 z170 ⟨zd_J0_coder_7d493, rfl, rfl, rfl, ⟨Nat.le_of_ble_eq_true rfl, Nat.le_of_ble_eq_true rfl⟩, Nat.le_of_ble_eq_true rfl, Nat.le_of_ble_eq_true rfl, Nat.le_of_ble_eq_true rfl⟩) rfl ?_
  refine j_ishr K dJ0_length_8abf5_9 ?_
  refine j_iret K X dJ0_length_8abf5_10 (congrArg some (Prod.ext ?_ rfl))
  rw [← hv]
  have key : ∀ i, i < 14 → (Int32.ofNat (zlen.getD i 0) >>> ((0 : Int32) &&& 31)) = Int32.ofNat (zlen.getD i 0) := by decide +kernel
  exact key i hi
theorem c_pci {l : Launch} {S : Hp} {x n : Int32} {f : PV} (hf : f = vR none ∨ f = vK 15) (h0 : ¬ x < 0) (h1 : x < n) : Ct l yJ3_checkIndex_8e157 cJ3_checkIndex_8e157 3 (some .int) (rmd 0 0 0) 0 0 [vI x, vI n, f] S (QI (x, S)) := by
  refine z_entry (by decide +kernel) (by rcases hf with rfl | rfl <;> exact Nat.le_of_ble_eq_true rfl) (fun E ad K X => ?_)
  have go : J E 0 0 0 [(0, vI x), (1, vI n), (2, f)] [] S ad := by
    refine j_iload_n K dJ3_checkIndex_8e157_0 rfl 0 rfl ?_
    refine j_if_lt K dJ3_checkIndex_8e157_1 (fun c => absurd c h0) (fun c => ?_)
    refine j_iload_n K dJ3_checkIndex_8e157_4 rfl 0 rfl ?_
    refine j_iload_n K dJ3_checkIndex_8e157_5 rfl 1 rfl ?_
    refine j_icmp_lt K dJ3_checkIndex_8e157_6 (fun c => ?_) (fun c => absurd h1 c)
    refine j_iload_n K dJ3_checkIndex_8e157_16 rfl 0 rfl ?_
    exact j_iret K X dJ3_checkIndex_8e157_17 rfl
  exact go
theorem c_sci {l : Launch} {S : Hp} {x n : Int32} (h0 : ¬ x < 0) (h1 : x < n) : Ct l yJ0_checkIndex_df160 cJ0_checkIndex_df160 2 none (rmd 1 0 0) 0 0 [vI x, vI n] S (QV S) := by
  refine z_entry (by decide +kernel) (Nat.le_of_ble_eq_true rfl) (fun E ad K X => ?_)
  refine j_iload_n K dJ0_checkIndex_df160_0 rfl 0 rfl ?_
  refine j_iload_n K dJ0_checkIndex_df160_1 rfl 1 rfl ?_
  refine j_getsF K dJ0_checkIndex_df160_2 rfl z187 ?_ ?_
  · refine j_cI (st := []) K (r_S (vs := [vI x, vI n, vR none]) (n := 3) K (c_pci (Or.inl rfl) h0 h1) dJ0_checkIndex_df160_5 z189 z190 z8 z191 ⟨zd_J3_checkIndex_8e157, rfl, rfl, rfl, ⟨Nat.le_of_ble_eq_true rfl, Nat.le_of_ble_eq_true rfl⟩, Nat.le_of_ble_eq_true rfl, Nat.le_of_ble_eq_true rfl, Nat.le_of_ble_eq_true rfl⟩) rfl ?_
    refine j_pop K dJ0_checkIndex_df160_8 rfl ?_
    exact j_vret K X dJ0_checkIndex_df160_9 rfl
  · refine j_cI (st := []) K (r_S (vs := [vI x, vI n, vK 15]) (n := 3) K (c_pci (Or.inr rfl) h0 h1) dJ0_checkIndex_df160_5 z189 z190 z8 z191 ⟨zd_J3_checkIndex_8e157, rfl, rfl, rfl, ⟨Nat.le_of_ble_eq_true rfl, Nat.le_of_ble_eq_true rfl⟩, Nat.le_of_ble_eq_true rfl, Nat.le_of_ble_eq_true rfl, Nat.le_of_ble_eq_true rfl⟩) rfl ?_
    refine j_pop K dJ0_checkIndex_df160_8 rfl ?_
    exact j_vret K X dJ0_checkIndex_df160_9 rfl
theorem bytes_ok : ∀ i, i < 14 → ∀ j, j < zlen.getD i 0 → (((((zbyt.getD i []).getD j 0) &&& 255).toUInt32 % 65536).toInt32 = (zbyt.getD i []).getD j 0 ∧ narrow .char (.int ((zbyt.getD i []).getD j 0)) = .int ((zbyt.getD i []).getD j 0)) := by decide +kernel
theorem zlen_small : ∀ i, i < 14 → zlen.getD i 0 < 1000 := by decide +kernel
theorem c_lca {l : Launch} {S : Hp} {i : Nat} {x : Int32} (hi : i < 14) (hx : vp_in x (zlen.getD i 0)) : Ct l yJ1_charAt_3b067 cJ1_charAt_3b067 2 (some .char) (rmd 2 0 0) 0 0 [vK (100 + i), vI x] S (QI ((zbyt.getD i []).getD x.toNatClampNeg 0, S)) := by
  have hs := zlen_small i hi
  obtain ⟨j, hj, rfl⟩ := vp_in_of hx (by omega)
  have hcl : (nI j).toNatClampNeg = j := nI_clamp (by omega)
  obtain ⟨b1, b2⟩ := bytes_ok i hi j hj
  refine z_entry (by decide +kernel) (Nat.le_of_ble_eq_true rfl) (fun E ad K X => ?_)
  refine j_iload_n K dJ1_charAt_3b067_0 rfl 1 rfl ?_
  refine j_aload_nK K dJ1_charAt_3b067_1 rfl 0 rfl ?_
  refine j_lenB K hi dJ1_charAt_3b067_2 ?_
  refine j_cV (st := []) K (r_S (vs := [vI (nI j), vI (Int32.ofNat (zlen.getD i 0))]) (n := 2) K (c_sci (nI_pos (by omega)) (nI_lt hj (by omega))) dJ1_charAt_3b067_3 z184 z185 z6 z186 ⟨zd_J0_checkIndex_df160, rfl, rfl, rfl, ⟨Nat.le_of_ble_eq_true rfl, Nat.le_of_ble_eq_true rfl⟩, Nat.le_of_ble_eq_true rfl, Nat.le_of_ble_eq_true rfl, Nat.le_of_ble_eq_true rfl⟩) rfl ?_
  refine j_aload_nK K dJ1_charAt_3b067_6 rfl 0 rfl ?_
  refine j_iload_n K dJ1_charAt_3b067_7 rfl 1 rfl ?_
  refine j_aldB K hi hx dJ1_charAt_3b067_8 ?_
  refine j_sipush (v := 255) K dJ1_charAt_3b067_9 (by decide) ?_
  refine j_iand K dJ1_charAt_3b067_12 ?_
  rw [hcl] at X ⊢
  refine j_i2c K dJ1_charAt_3b067_13 b1 ?_
  exact j_nret K X dJ1_charAt_3b067_14 b2 rfl
theorem c_sat {l : Launch} {S : Hp} {i : Nat} {x v : Int32} (h : sAt i x = some v) : Ct l yJ0_charAt_5068e cJ0_charAt_5068e 2 (some .char) (rmd 3 0 0) 0 0 [vK i, vI x] S (QI (v, S)) := by
  have hi := sAt_lt h
  have h := it hi h
  by_cases hx : inb x (zlen.getD i 0) = true
  · have h := it hx h
    cases h
    have hx := inb_in hx
    have hs := zlen_small i hi
    obtain ⟨j, hj, rfl⟩ := vp_in_of hx (by omega)
    have hcl : (nI j).toNatClampNeg = j := nI_clamp (by omega)
    obtain ⟨b1, b2⟩ := bytes_ok i hi j hj
    refine z_entry (by decide +kernel) (Nat.le_of_ble_eq_true rfl) (fun E ad K X => ?_)
    refine j_aload_nK K dJ0_charAt_5068e_0 rfl 0 rfl ?_
    refine j_cI (st := []) K (r_VK (vs := []) (n := 0) K (c_lat hi) hi dJ0_charAt_5068e_1 z177 z178 z179 z6 z180 ⟨zd_J0_isLatin1_aae02, rfl, rfl, rfl, ⟨Nat.le_of_ble_eq_true rfl, Nat.le_of_ble_eq_true rfl⟩, Nat.le_of_ble_eq_true rfl, Nat.le_of_ble_eq_true rfl, Nat.le_of_ble_eq_true rfl⟩) rfl ?_
    refine j_if_eq K dJ0_charAt_5068e_4 (fun c => absurd c (by decide)) (fun c => ?_)
    refine j_aload_nK K dJ0_charAt_5068e_7 rfl 0 rfl ?_
    refine j_strV K hi dJ0_charAt_5068e_8 rfl z1244 ?_
    refine j_iload_n K dJ0_charAt_5068e_11 rfl 1 rfl ?_
    refine j_cI (st := []) K (r_S (vs := [vK (100 + i), vI (nI j)]) (n := 2) K (c_lca hi hx) dJ0_charAt_5068e_12 z181 z182 z7 z183 ⟨zd_J1_charAt_3b067, rfl, rfl, rfl, ⟨Nat.le_of_ble_eq_true rfl, Nat.le_of_ble_eq_true rfl⟩, Nat.le_of_ble_eq_true rfl, Nat.le_of_ble_eq_true rfl, Nat.le_of_ble_eq_true rfl⟩) rfl ?_
    exact j_nret K X dJ0_charAt_5068e_15 (by rw [hcl]; exact b2) rfl
  · cases ie hx h
theorem c_atK {l : Launch} {S : Hp} {x v : Int32} (h : atK x = some v) : Ct l yX7_at cX7_at 2 (some .int) (rmd 0 0 0) 0 0 [vK 14, vI x] S (QI (v, S)) := by
  have h := Option.some.inj h
  refine z_entry (by decide +kernel) (Nat.le_of_ble_eq_true rfl) (fun E ad K X => ?_)
  have six : ∀ y : Int32, inb y 6 = true ↔ ¬ y < 0 ∧ ¬ (6 : Int32) ≤ y := by
    intro y
    have e6 : (6 : Int32).toInt = 6 := rfl
    have e0 : (0 : Int32).toInt = 0 := rfl
    simp only [inb, Bool.not_eq_true', Bool.or_eq_false_iff, decide_eq_false_iff_not, Int32.lt_iff_toInt_lt, Int32.le_iff_toInt_le, e6, e0]
    have ec : y.toNatClampNeg = y.toInt.toNat := rfl
    rw [ec]
    omega
  refine j_iload_n K dX7_at_0 rfl 1 rfl ?_
  refine j_if_lt K dX7_at_1 (fun c => ?_) (fun c => ?_)
  · refine j_iconst (v := 0) K dX7_at_16 (by decide) ?_
    exact j_iret K X dX7_at_17 (by rw [← h, if_neg (fun q => ((six x).mp q).1 c)])
  · refine j_iload_n K dX7_at_4 rfl 1 rfl ?_
    refine j_aload_nK K dX7_at_5 rfl 0 rfl ?_
    refine j_lenK K dX7_at_6 ?_
    refine j_icmp_ge K dX7_at_7 (fun c2 => ?_) (fun c2 => ?_)
    · refine j_iconst (v := 0) K dX7_at_16 (by decide) ?_
      exact j_iret K X dX7_at_17 (by rw [← h, if_neg (fun q => ((six x).mp q).2 c2)])
    · have hin := (six x).mpr ⟨c, c2⟩
      refine j_aload_nK K dX7_at_10 rfl 0 rfl ?_
      refine j_iload_n K dX7_at_11 rfl 1 rfl ?_
      refine j_aldK K (inb_in hin) dX7_at_12 ?_
      refine j_goto K dX7_at_13 ?_
      exact j_iret K X dX7_at_17 (by rw [← h, if_pos hin])
