/-! BOTH CONSTRUCTORS -/
def b0 (i : Nat) : Nat := ((zbyt.getD 0 []).getD i 0).toNatClampNeg
theorem b0_ok : ∀ i, i < 37 → (zbyt.getD 0 []).getD i 0 = nI (b0 i) ∧ b0 i < 256 := by decide +kernel
def isR (x : Nat ⊕ (List Nat × (List Nat × List Nat))) : Bool := match x with
  | .inl _ => false
  | .inr _ => true
theorem p0_ok : isR (pA (tkN b0 37)) = true := by decide +kernel
theorem m_cp {fu n0 : Nat} : ∀ d k m (J : Nat → Nat → Int32), k + d = 37 → d < m → (∀ i, i < k → J 7 i = J 15 i) → ∃ J', (∀ a, a ≠ 7 → J' a = J a) ∧ (∀ i, i < 37 → J' 7 i = J 15 i) ∧ B_X8_init_986 fu n0 0 m (mkM J) (nI k) = b2 (F_X8_text fu (mkM (up2 J' 0 10 37)) 0) fun _ S => some S := by
  intro d
  induction d with
  | zero =>
    intro k m J hk hm h
    obtain ⟨m, rfl⟩ : ∃ z, m = z + 1 := ⟨m - 1, by omega⟩
    refine ⟨J, fun _ _ => rfl, fun i hi => h i (by omega), ?_⟩
    show L_X8_init_986 _ _ _ _ _ _ = _
    unfold L_X8_init_986
    rw [if_pos (show (37 : Int32) ≤ nI k by rw [lit 37]; exact nI_le (by omega) (by omega)), M_pI, bind_some', M_ob, bind_some']
  | succ d ih =>
    intro k m J hk hm h
    obtain ⟨m, rfl⟩ : ∃ z, m = z + 1 := ⟨m - 1, by omega⟩
    obtain ⟨J', h1, h2, h3⟩ := ih (k + 1) m (up2 J 7 k (J 15 k)) (by omega) (by omega) (fun i hi => by
      rw [up2_row, up2_o (by decide)]
      by_cases e : i = k
      · rw [if_pos e, e]
      · rw [if_neg e]; exact h i (by omega))
    refine ⟨J', fun a ha => (h1 a ha).trans (funext fun b => up2_o ha), fun i hi => by rw [h2 i hi, up2_o (by decide)], ?_⟩
    show L_X8_init_986 _ _ _ _ _ _ = _
    unfold L_X8_init_986
    rw [if_neg (show ¬ (37 : Int32) ≤ nI k by rw [lit 37]; exact nI_ge (by omega) (by decide)), M_r9, bind_some', M_r21, bind_some', M_g15 (by omega), bind_some', M_p7 (by omega), bind_some', nI_1]
    exact h3
def xend (fu n0 : Nat) (S : Hp) : Option Hp :=
  (gR S (some 0) 5 6).bind fun v159 =>
  (gR S (some 0) 5 5).bind fun v164 =>
  (ob S 2 v164).bind fun o167 =>
  (chn n0 S [(some 0), v159]).bind fun _ =>
  b2 (F_X3_read fu S o167) fun v167 S167 =>
  (rP S167 v159 8 1 (0 : Int32) v167).bind fun S170 =>
  (pI S170 (some 0) 5 7 (1 : Int32)).bind fun S173 =>
  (gR S173 (some 0) 5 4).bind fun v177 =>
  (ob S173 4 v177).bind fun o180 =>
  (F_X6_empty S173 o180).bind fun S180 =>
  (gR S180 (some 0) 5 0).bind fun v184 =>
  (gR S180 (some 0) 5 6).bind fun v189 =>
  (rG S180 v189 8 (0 : Int32)).bind fun v193 =>
  (ob S180 0 v184).bind fun o194 =>
  (F_X0_rule S180 o194 (0 : Int32) v193).bind fun S194 =>
  some S194
theorem x_cp {fu n0 : Nat} : ∀ d k m (I : Nat → Nat → Int32), k + d = 37 → d < m → I 34 1 = nI k → (∀ i, i < k → I 35 i = nI (b0 i)) → ∃ I', (∀ a, a ≠ 34 → a ≠ 35 → I' a = I a) ∧ I' 34 1 = nI 37 ∧ (∀ i, i < 37 → I' 35 i = nI (b0 i)) ∧ B_X7_init_130 fu n0 0 m (mkX q0 I) (nI k) = xend fu n0 (mkX q0 I') := by
  intro d
  induction d with
  | zero =>
    intro k m I hk hm h1 h
    obtain ⟨m, rfl⟩ : ∃ z, m = z + 1 := ⟨m - 1, by omega⟩
    obtain rfl : k = 37 := by omega
    refine ⟨I, fun _ _ _ => rfl, h1, h, ?_⟩
    show L_X7_init_130 _ _ _ _ _ _ = _
    unfold L_X7_init_130
    rw [show sLen 0 = some (nI 37) from rfl, bind_some', if_pos (nI_le (Nat.le_refl _) (by decide))]
    rfl
  | succ d ih =>
    intro k m I hk hm h1 h
    obtain ⟨m, rfl⟩ : ∃ z, m = z + 1 := ⟨m - 1, by omega⟩
    obtain ⟨I', g1, g2, g3, g4⟩ := ih (k + 1) m (up2 (up2 I 35 k (nI (b0 k))) 34 1 (nI (k + 1))) (by omega) (by omega) up2_s (fun i hi => by
      rw [up2_o (by decide), up2_row]
      by_cases e : i = k
      · rw [if_pos e, e]
      · rw [if_neg e]; exact h i (by omega))
    refine ⟨I', fun a ha hb => (g1 a ha hb).trans (funext fun b => by rw [up2_o ha, up2_o hb]), g2, g3, ?_⟩
    have sA : sAt 0 (nI k) = some (nI (b0 k)) := by rw [sAt_q (by decide) (show k < zlen.getD 0 0 by show k < 37; omega) (by decide), (b0_ok k (by omega)).1]
    have a35 : aL (mkX q0 I) (some 35) 7 = some (nI 160) := X_aL (by decide) rfl
    have st : F_X7_store (mkX q0 I) (some 35) (nI k) (nI (b0 k)) = some (mkX q0 (up2 I 35 k (nI (b0 k)))) := X_st 160 (by decide) rfl (by omega) (by decide)
    show L_X7_init_130 _ _ _ _ _ _ = _
    unfold L_X7_init_130 F_X6_append B_X6_append_34
    rw [show sLen 0 = some (nI 37) from rfl, bind_some', if_neg (nI_ge (show k < 37 by omega) (by decide)), K_r4, bind_some', sA, bind_some', X_ob34, bind_some', T_gI, bind_some', T_r0, bind_some', a35, bind_some', h1, if_neg (nI_ge (show k < 160 by omega) (by decide)), bind_some', bind_some', st, bind_some', T_gI, bind_some', up2_o (by decide), h1, nI_1, T_pI, bind_some', bind_some']
    exact g4
theorem m15 : ∀ i, i < 37 → iM181.2.2.1 15 i = (zbyt.getD 0 []).getD i 0 := by decide +kernel
theorem m16 : ∀ i, i < 96 → iM181.2.2.1 16 i = wdM.getD i 0 := by decide +kernel
theorem mz0 : ∀ j, j < 37 → iM181.2.2.1 0 j = 0 := by decide +kernel
theorem mzs : ∀ s, s < 4 → iM181.2.2.1 12 s = -1 ∧ iM181.2.2.1 13 s = 0 := by decide +kernel
theorem mz4 : ∀ i, i < 160 → iM181.2.2.1 14 i = 0 := by decide +kernel
theorem xz0 : ∀ j, j < 15 → iX125.2.2.1 0 j = 0 ∧ iX125.2.2.1 1 j = 0 ∧ iX125.2.2.1 34 j = 0 := by decide +kernel
theorem xzs : ∀ s, s < 4 → iX125.2.2.1 (45 + 2 * s) 0 = -1 ∧ iX125.2.2.1 (45 + 2 * s) 1 = 0 := by decide +kernel
theorem xz4 : ∀ s, s < 4 → ∀ i, i < 40 → iX125.2.2.1 (46 + 2 * s) i = 0 := by decide +kernel
def v0 (c : Nat → Int32) (bd : Nat → Nat) : Ev := (0, (0, (0, ((fun _ => 0), ((fun _ => 0), ((fun _ => 0), ((fun _ => 0), ((fun _ => 0), ((fun _ => 0), ((fun _ => 0), (c, bd)))))))))))
theorem init_ok {fu : Nat} (hfu : 2000 < fu) : ∃ SX SM, F_X7_init fu (hp1 5) 0 = some SX ∧ F_X8_init fu (hp1 6) 0 = some SM ∧ Rel SX SM := by
  obtain ⟨J1, j1, j2, j3⟩ := m_cp (fu := fu) (n0 := (hp1 6).1) 37 0 fu iM181.2.2.1 rfl (by omega) (fun i hi => by omega)
  obtain ⟨I1, i1, i2, i3, i4⟩ := x_cp (fu := fu) (n0 := (hp1 5).1) 37 0 fu iX125.2.2.1 rfl (by omega) (xz0 1 (by decide)).2.2 (fun i hi => by omega)
  have hB : BY I1 b0 37 := ⟨by decide, i2, fun i hi => ⟨i3 i hi, (b0_ok i hi).2⟩⟩
  have hM : BM (up2 J1 0 10 37) b0 37 := ⟨by decide, up2_s, fun i hi => ⟨by rw [up2_o (by decide), j2 i hi, m15 i hi]; exact (b0_ok i hi).1, (b0_ok i hi).2⟩⟩
  have hW : WM (up2 J1 0 10 37) := fun i hi => by rw [up2_o (by decide), j1 16 (by decide)]; exact m16 i hi
  have h13 : up2 J1 0 10 37 0 13 = nI q0.1 := by rw [up2_j (by decide), j1 0 (by decide)]; exact mz0 13 (by decide)
  have eX : F_X7_init fu (hp1 5) 0 = xend fu (hp1 5).1 (mkX q0 I1) := by
    rw [x_ctr, x_pre2]
    exact i4
  have eM : F_X8_init fu (hp1 6) 0 = b2 (F_X8_text fu (mkM (up2 J1 0 10 37)) 0) fun _ S => some S := by
    rw [m_pre, m_pre2]
    exact j3
  rcases tx_core (q := q0) (fu := fu) hB hM hW h13 (by decide) hfu with ⟨e, I', J', hp, -⟩ | ⟨len, I', J', c, bd, a1, a2, a3, a4, a5, a6, a7⟩
  · have := p0_ok
    rw [hp] at this
    cases this
  · have e53 : 53 + 4 * q0.1 = 53 := rfl
    rw [e53] at a1
    have fI : ∀ a, a < 53 → ¬ CW a → a ≠ 34 → a ≠ 35 → I' a = iX125.2.2.1 a := fun a h1 h2 h3 h4 => (a1 a h1 h2).trans (i1 a h3 h4)
    have ncw : ∀ a, a < 36 ∨ 41 < a → ¬ CW a := fun a h q => by unfold CW at q; omega
    have f0 := fI 0 (by decide) (ncw 0 (by decide)) (by decide) (by decide)
    have f1 := fI 1 (by decide) (ncw 1 (by decide)) (by decide) (by decide)
    have fJ : ∀ a, a ≠ 0 → a ≠ 7 → a ≠ 8 → a ≠ 9 → a ≠ 17 → J' a = iM181.2.2.1 a := fun a h0 h7 h8 h9 h17 => (a3.1 a h0 h8 h9 h17).trans ((funext fun b => up2_o h0).trans (j1 a h7))
    have gJ : ∀ j, j ∉ ext → j ≠ 10 → j ≠ 13 → J' 0 j = iM181.2.2.1 0 j := fun j h1 h2 h3 => by rw [a3.2.1 j h1 h2 h3, up2_j h2, j1 0 (by decide)]
    have rp : rP (mkN q0 len I') (some 42) 8 1 0 (some (53 + 4 * q0.1)) = some (mkX (nq q0 len) I') := N_rP (q := q0) (by decide)
    have c1 : chn (hp1 5).1 (mkX q0 I1) [some 0, some 42] = some () := chn_ok (show 1 ≤ 53 + 4 * q0.1 by decide) (fun r hr => by
      simp only [List.mem_cons, List.not_mem_nil, or_false] at hr
      rcases hr with rfl | rfl
      · exact okR_a (show 0 < 53 by decide)
      · exact okR_a (show 42 < 53 by decide))
    have rg : rG (mkX (nq q0 len) (up2 (up2 I' 0 7 1) 34 1 0)) (some 42) 8 0 = some (some 53) := by
      unfold rG
      rw [X_o42, bind_some']
      rfl
    have l1 : okRb (mkX (nq q0 len) (up2 (up2 (up2 I' 0 7 1) 34 1 0) 1 10 0)) (some 53) = true := okR_a (show 53 < 53 + 4 * (0 + 1) by decide)
    refine ⟨mkX (setL (nq q0 len) 1 (some 53)) (up2 (up2 (up2 I' 0 7 1) 34 1 0) 1 10 0), mkM J', ?_, ?_, setL (nq q0 len) 1 (some 53), _, J', v0 c bd, rfl, rfl, ?_⟩
    · rw [eX]
      unfold xend
      rw [X_r6, bind_some', K_r5, bind_some', R_ob, bind_some', c1, bind_some', a2, b2_some, rp, bind_some', K_pI, bind_some', K_r4, bind_some', X_ob34, bind_some']
      unfold F_X6_empty F_X0_rule
      rw [T_pI, bind_some', bind_some', X_r0, bind_some', X_r6, bind_some', rg, bind_some', E_ob (Or.inl rfl), bind_some', E_pI (Or.inl rfl), bind_some', E_pR (Or.inl rfl) l1, bind_some', bind_some']
    · rw [eM, a7, b2_some]
    · have hl : LT (setL (nq q0 len) 1 (some 53)) (up2 (up2 (up2 I' 0 7 1) 34 1 0) 1 10 0) J' 0 c bd := LT_mono (q := nq q0 len) (r := 0) a6 (funext fun b => by rw [up2_o (by decide), up2_o (by decide), up2_o (by decide)]) (funext fun b => by rw [up2_o (by decide), up2_o (by decide), up2_o (by decide)]) rfl rfl
      refine ⟨⟨⟨?_, Nat.zero_le _⟩, ⟨?_, Nat.zero_le _⟩, ?_, fun p hp => (by cases hp), fun p hp => by cases hp⟩, ⟨⟨?_, Nat.zero_le _⟩, ⟨?_, Nat.zero_le _⟩, ?_, fun p hp => (by cases hp), fun p hp => by cases hp⟩, ⟨fun p hp => (by cases hp), fun p hp => by cases hp⟩, ⟨0, by decide, rfl⟩, ⟨0, by rw [up2_s]; rfl, ?_, rfl, hl⟩, ⟨Nat.le_refl 1, show 0 + 1 ≤ 6 by decide, ?_, a5, fun t ht => ?_⟩, ⟨0, by decide, by rw [up2_o (by decide), up2_s]; rfl, a4, fun i hi => by omega⟩, fun s hs => ?_, ⟨?_, Or.inl ?_⟩, fun i hi => ?_⟩
      · rw [up2_j (by decide), up2_o (by decide), up2_o (by decide), f1]; exact (xz0 0 (by decide)).2.1
      · rw [up2_j (by decide), up2_o (by decide), up2_o (by decide), f1]; exact (xz0 5 (by decide)).2.1
      · rw [up2_j (by decide), up2_o (by decide), up2_o (by decide), f1]; exact (xz0 9 (by decide)).2.1
      · rw [gJ 0 (by decide) (by decide) (by decide)]; exact mz0 0 (by decide)
      · rw [gJ 7 (by decide) (by decide) (by decide)]; exact mz0 7 (by decide)
      · rw [gJ 8 (by decide) (by decide) (by decide)]; exact mz0 8 (by decide)
      · rw [gJ 14 (by decide) (by decide) (by decide)]; exact mz0 14 (by decide)
      · rw [up2_o (by decide), up2_o (by decide), up2_s]; rfl
      · obtain rfl : t = 0 := by have ht : t < 0 + 1 := ht; omega
        exact ⟨c, bd, hl⟩
      · have w1 : ∀ a, 45 ≤ a → a < 53 → up2 (up2 (up2 I' 0 7 1) 34 1 0) 1 10 0 a = iX125.2.2.1 a := fun a h1 h2 => (funext fun b => by rw [up2_o (by omega), up2_o (by omega), up2_o (by omega)]).trans (fI a h2 (ncw a (by omega)) (by omega) (by omega))
        obtain ⟨x1, x2⟩ := xzs s hs
        obtain ⟨y1, y2⟩ := mzs s hs
        rw [w1 (45 + 2 * s) (by omega) (by omega), w1 (46 + 2 * s) (by omega) (by omega), fJ 12 (by decide) (by decide) (by decide) (by decide) (by decide), fJ 13 (by decide) (by decide) (by decide) (by decide) (by decide), fJ 14 (by decide) (by decide) (by decide) (by decide) (by decide), x1, x2, y1, y2]
        exact ⟨rfl, rfl, ⟨0, by decide, rfl⟩, Or.inl rfl, fun i hi => by rw [xz4 s hs i hi, mz4 _ (by omega)]⟩
      · rw [up2_o (by decide), up2_o (by decide), up2_j (by decide), f0, (xz0 3 (by decide)).1, gJ 15 (by decide) (by decide) (by decide), mz0 15 (by decide)]
      · rw [gJ 15 (by decide) (by decide) (by decide)]; exact mz0 15 (by decide)
      · rw [fJ 16 (by decide) (by decide) (by decide) (by decide) (by decide)]; exact m16 i hi
