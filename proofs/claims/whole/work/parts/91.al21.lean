/-! lowest terms -/
theorem gcd_st (a b : Nat) : Nat.gcd a b = Nat.gcd b (a % b) := by
  rw [Nat.gcd_comm a b, Nat.gcd_rec b a, Nat.gcd_comm]
theorem x_gcdL {S : Hp} {fu : Nat} : ∀ (k a b r m : Nat), b < 2 ^ k → a < 2 ^ 31 → b < 2 ^ 31 → r + 2 * k + 2 ≤ 1000 → 2 * k + 2 < m → B_X7_greatestDivisor_7 fu m S (nI a) (nI b) (nI r) = some (nI (Nat.gcd a b), S) := by
  have zero : ∀ (a r m : Nat), r < 1000 → B_X7_greatestDivisor_7 fu (m + 1) S (nI a) (nI 0) (nI r) = some (nI (Nat.gcd a 0), S) := by
    intro a r m hr
    show L_X7_greatestDivisor_7 _ _ _ _ _ _ = _
    unfold L_X7_greatestDivisor_7 B_X7_greatestDivisor_35
    rw [if_neg (by rw [lit 1000]; exact nI_ge hr (by decide)), if_pos (show nI 0 = 0 from rfl), Nat.gcd_zero_right]
  have step : ∀ (a b r m : Nat), r < 1000 → 0 < b → a < 2 ^ 31 → b < 2 ^ 31 → B_X7_greatestDivisor_7 fu (m + 1) S (nI a) (nI b) (nI r) = B_X7_greatestDivisor_7 fu m S (nI b) (nI (a % b)) (nI (r + 1)) := by
    intro a b r m hr h0 ha hb
    show L_X7_greatestDivisor_7 _ _ _ _ _ _ = _
    unfold L_X7_greatestDivisor_7
    rw [if_neg (by rw [lit 1000]; exact nI_ge hr (by decide)), if_neg (nI_ne0 h0 hb), if_neg (nI_ne0 h0 hb), pk_rem ha h0 hb, nI_1]
  intro k
  induction k with
  | zero =>
    intro a b r m hk ha hb hr hm
    obtain ⟨m, rfl⟩ : ∃ q, m = q + 1 := ⟨m - 1, by omega⟩
    obtain rfl : b = 0 := by
      have : b < 1 := hk
      omega
    exact zero a r m (by omega)
  | succ k ih =>
    intro a b r m hk ha hb hr hm
    obtain ⟨m, rfl⟩ : ∃ q, m = q + 2 := ⟨m - 2, by omega⟩
    by_cases h0 : b = 0
    · subst h0
      exact zero a r (m + 1) (by omega)
    · have hlt : a % b < b := Nat.mod_lt _ (by omega)
      rw [step a b r (m + 1) (by omega) (by omega) ha hb, gcd_st a b]
      by_cases h1 : a % b = 0
      · rw [h1]
        exact zero b (r + 1) m (by omega)
      · have hlt2 : b % (a % b) < a % b := Nat.mod_lt _ (by omega)
        have hle2 : b % (a % b) + a % b ≤ b := by
          have h3 := Nat.div_add_mod b (a % b)
          have h4 : 1 ≤ b / (a % b) := (Nat.one_le_div_iff (by omega)).mpr (by omega)
          have h5 : a % b * 1 ≤ a % b * (b / (a % b)) := Nat.mul_le_mul_left _ h4
          omega
        have hk2 : b < 2 * 2 ^ k := by rw [Nat.pow_succ] at hk; omega
        rw [step b (a % b) (r + 1) m (by omega) (by omega) hb (by omega), gcd_st b (a % b)]
        exact ih (a % b) (b % (a % b)) (r + 1 + 1) m (by omega) (by omega) (by omega) (by omega) (by omega)
theorem cmp0 {n : Nat} {α : Type} {x y : α} (h : n < 2 ^ 31) : (if lg_cmp (lN n) (0 : Int64) = 0 then x else y) = if n = 0 then x else y := by
  have e : lg_cmp (lN n) (0 : Int64) = 0 ↔ n = 0 := (lg_cmp_eq _ _).trans (pk_lEQ (a := n) (b := 0) (by omega) (by decide))
  by_cases hn : n = 0
  · rw [if_pos hn, if_pos (e.mpr hn)]
  · rw [if_neg hn, if_neg (fun q => hn (e.mp q))]
theorem lN_ne0 {n : Nat} (h0 : 0 < n) (h : n < 2 ^ 31) : ¬ lN n = 0 := fun q => by
  have := (pk_lEQ (a := n) (b := 0) (by omega) (by decide)).mp q
  omega
theorem m_gcdL {S : Hp} {fu : Nat} {a0 b0 part : Nat} (ha0 : a0 < 2 ^ 31) (hb0 : b0 < 2 ^ 31) (hpart : part < 2) : ∀ (k a b m : Nat), b < 2 ^ k → a < 2 ^ 31 → b < 2 ^ 31 → 0 < a ∨ 0 < b → 2 * k + 2 < m → B_X8_lowest_16 fu (lN a0) (lN b0) (nI part) m S (lN a) (lN b) = some (lN ((if part = 0 then a0 else b0) / Nat.gcd a b), S) := by
  have zero : ∀ (a m : Nat), a < 2 ^ 31 → 0 < a → B_X8_lowest_16 fu (lN a0) (lN b0) (nI part) (m + 1) S (lN a) (lN 0) = some (lN ((if part = 0 then a0 else b0) / Nat.gcd a 0), S) := by
    intro a m ha h0
    show L_X8_lowest_16 _ _ _ _ _ _ _ _ = _
    unfold L_X8_lowest_16 B_X8_lowest_51
    rw [cmp0 (by decide), if_pos rfl, Nat.gcd_zero_right, if_neg (lN_ne0 h0 ha), if_neg (lN_ne0 h0 ha), pk_lDiv (by omega) h0 (by omega), pk_lDiv (by omega) h0 (by omega)]
    rcases (show part = 0 ∨ part = 1 by omega) with rfl | rfl
    · rw [if_pos (show nI 0 = 0 from rfl), if_pos rfl]
    · rw [if_neg (show ¬ nI 1 = 0 by decide), if_neg (by decide)]
  have step : ∀ (a b m : Nat), 0 < b → a < 2 ^ 31 → b < 2 ^ 31 → B_X8_lowest_16 fu (lN a0) (lN b0) (nI part) (m + 1) S (lN a) (lN b) = B_X8_lowest_16 fu (lN a0) (lN b0) (nI part) m S (lN b) (lN (a % b)) := by
    intro a b m h0 ha hb
    show L_X8_lowest_16 _ _ _ _ _ _ _ _ = _
    unfold L_X8_lowest_16
    rw [cmp0 hb, if_neg (show ¬ b = 0 by omega), if_neg (lN_ne0 h0 hb), pk_lRem (by omega) h0 (by omega)]
  intro k
  induction k with
  | zero =>
    intro a b m hk ha hb hab hm
    obtain ⟨m, rfl⟩ : ∃ q, m = q + 1 := ⟨m - 1, by omega⟩
    obtain rfl : b = 0 := by
      have : b < 1 := hk
      omega
    exact zero a m ha (by omega)
  | succ k ih =>
    intro a b m hk ha hb hab hm
    obtain ⟨m, rfl⟩ : ∃ q, m = q + 2 := ⟨m - 2, by omega⟩
    by_cases h0 : b = 0
    · subst h0
      exact zero a (m + 1) ha (by omega)
    · have hlt : a % b < b := Nat.mod_lt _ (by omega)
      rw [step a b (m + 1) (by omega) ha hb, gcd_st a b]
      by_cases h1 : a % b = 0
      · rw [h1]
        exact zero b m hb (by omega)
      · have hlt2 : b % (a % b) < a % b := Nat.mod_lt _ (by omega)
        have hle2 : b % (a % b) + a % b ≤ b := by
          have h3 := Nat.div_add_mod b (a % b)
          have h4 : 1 ≤ b / (a % b) := (Nat.one_le_div_iff (by omega)).mpr (by omega)
          have h5 : a % b * 1 ≤ a % b * (b / (a % b)) := Nat.mul_le_mul_left _ h4
          omega
        have hk2 : b < 2 * 2 ^ k := by rw [Nat.pow_succ] at hk; omega
        rw [step b (a % b) m (by omega) hb (by omega), gcd_st b (a % b)]
        exact ih (a % b) (b % (a % b)) m (by omega) (by omega) (by omega) (Or.inl (by omega)) (by omega)
theorem x_low {S : Hp} {fu a b part : Nat} (ha : a < 4096) (hb : b < 4096) (hpart : part < 2) (hfu : 200 < fu) : F_X7_inLowestTerms fu S (nI a) (nI b) (nI part) = some (if b = 0 then (-4611686018427387904 : Int64) else lN ((if part = 0 then a else b) / Nat.gcd a b), S) := by
  unfold F_X7_inLowestTerms B_X7_inLowestTerms_14 B_X7_inLowestTerms_27 F_X7_greatestDivisor
  have g := x_gcdL (S := S) (fu := fu) 12 a b 0 fu (by omega) (by omega) (by omega) (by omega) (by omega)
  have g : B_X7_greatestDivisor_7 fu fu S (nI a) (nI b) (0 : Int32) = some (nI (Nat.gcd a b), S) := g
  rw [g, b2_some]
  by_cases h0 : b = 0
  · subst h0
    rw [if_pos (show nI 0 ≤ 0 by decide), if_pos rfl]
  · have gp : 0 < Nat.gcd a b := Nat.gcd_pos_of_pos_right _ (by omega)
    have gl : Nat.gcd a b ≤ b := Nat.gcd_le_right _ (by omega)
    rw [if_neg (nI_nle (by omega) (by omega)), if_neg h0, if_pos (by rw [lit 0]; exact nI_lt gp (by omega)), if_neg (nI_ne0 gp (by omega)), if_neg (nI_ne0 gp (by omega)), pk_div (by omega) gp (by omega), pk_div (by omega) gp (by omega)]
    have d1 := Nat.div_le_self a (Nat.gcd a b)
    have d2 := Nat.div_le_self b (Nat.gcd a b)
    rw [nI_l (by omega), nI_l (by omega)]
    rcases (show part = 0 ∨ part = 1 by omega) with rfl | rfl
    · rw [if_pos (show nI 0 = 0 from rfl), if_pos rfl]
    · rw [if_neg (show ¬ nI 1 = 0 by decide), if_neg (by decide)]
theorem m_low {S : Hp} {fu a b part : Nat} (ha : a < 4096) (hb : b < 4096) (h0 : 0 < b) (hpart : part < 2) (hfu : 200 < fu) : F_X8_lowest fu S (lN a) (lN b) (nI part) = some (lN ((if part = 0 then a else b) / Nat.gcd a b), S) := by
  unfold F_X8_lowest
  rw [cmp0 (by omega)]
  by_cases hz : a = 0
  · subst hz
    rw [if_pos rfl, nI_l (by omega), Nat.gcd_zero_left]
    rcases (show part = 0 ∨ part = 1 by omega) with rfl | rfl
    · rw [if_pos rfl, Nat.zero_div]
    · rw [if_neg (by decide), Nat.div_self h0]
  · rw [if_neg hz]
    exact m_gcdL (by omega) (by omega) hpart 12 a b fu (by omega) (by omega) (by omega) (Or.inr h0) (by omega)
theorem al_share {fu : Nat} (hfu : 200 < fu) : Al_share Rel fu := by
  rintro SX SM ⟨q, I, J, v, rfl, rfl, h⟩ a1 a2
  have hX := Rv_X h
  have hM := Rv_M h
  have hok := h.2.2.1
  obtain ⟨hP, hP6⟩ := hM.1
  have hW10 := hM.2.1.2
  obtain ⟨J1, t1, m1⟩ := m_beatsAll (fu := fu) hM hfu
  have hM1 := RM_sme hM t1 (by decide)
  have hR1 : Rv q I J1 v := Rv_mono h smx_rf (sm0_of t1 (by decide))
  have no : ∃ (r : Int64) (SX1 SM1 : Hp), (some (-4611686018427387904, mkX q I) : Option (Int64 × Hp)) = some (r, SX1) ∧ (some (-4611686018427387904, mkM J1) : Option (Int64 × Hp)) = some (r, SM1) ∧ Rel SX1 SM1 := ⟨_, _, _, rfl, rfl, q, I, J1, v, rfl, rfl, hR1⟩
  have e1 : F_X8_in (mkM J1) a2 0 1 = some (bI (inb a2 2), mkM J1) := m_in0 (by decide)
  unfold F_X7_share F_X8_share B_X7_share_18 B_X8_share_26 B_X8_share_44
  rw [X_r0, bind_some', E_ob eE1, bind_some', x_hasPerson eE1 h.1, b2_some, M_ob, bind_some', m1, b2_some, M_ob, bind_some', m_isOne hM1.1.1 hP6, b2_some]
  cases hb : inb a1 (vP v) with
  | false => rw [if_pos bIf, if_pos bIf]; exact no
  | true =>
    obtain ⟨p, hp, rfl⟩ := inb_of hb (by omega)
    rw [if_neg bIt, if_neg bIt, x_zo, b2_some, e1, b2_some]
    cases hb2 : inb a2 2 with
    | false => rw [if_pos bIf, if_pos bIf]; exact no
    | true =>
      obtain ⟨part, hpart, rfl⟩ := inb_of hb2 (by decide)
      obtain ⟨I2, s2, x2⟩ := x_beats (fu := fu) eE1 hX hok hp hfu
      obtain ⟨I3, s3, x3⟩ := x_beatsOfAll (fu := fu) eE1 (RX_8 hX s2 eE1) hok hfu
      obtain ⟨b, hb', eb⟩ := sBeats_n hok hp hW10
      obtain ⟨a, ha', ea⟩ := sAll_n hok hP6 hW10
      rw [if_neg bIt, if_neg bIt, X_r0, bind_some', E_ob eE1, bind_some', x2, b2_some, X_r0, bind_some', E_ob eE1, bind_some', x3, b2_some, eb, ea, x_low (by omega) (by omega) hpart hfu, b2_some]
      by_cases h0 : a = 0
      · subst h0
        rw [if_pos rfl, if_pos (show nI 0 = 0 from rfl)]
        exact ⟨_, _, _, rfl, rfl, q, I3, J1, v, rfl, rfl, Rv_mono hR1 (EC_8 (Or.inl rfl) (smx_tr s2 s3)) sm0_rf⟩
      · obtain ⟨J2, t2, m2⟩ := m_beatsOf (fu := fu) hM1 hp hfu
        rw [if_neg h0, if_neg (nI_ne0 (by omega) (by omega)), M_ob, bind_some', m2, b2_some, eb, nI_l (by omega), nI_l (by omega), m_low (by omega) (by omega) (by omega) hpart hfu, b2_some]
        exact ⟨_, _, _, rfl, rfl, q, I3, J2, v, rfl, rfl, Rv_mono hR1 (EC_8 (Or.inl rfl) (smx_tr s2 s3)) (sm0_of t2 (by decide))⟩
