/-! people by a sheet -/
theorem nI_big {n : Nat} (h1 : 2 ^ 31 ≤ n) (h2 : n < 2 ^ 32) : (nI n).toInt < 0 := by
  show (nI n).toBitVec.toInt < 0
  rw [BitVec.toInt_eq_toNat_cond, pk_tn h2, if_neg (by omega)]
  omega
theorem x_read {q : Xp} {I : Nat → Nat → Int32} {s i : Nat} (hs : s < 4) (hi : i < 40) : F_X4_read (mkX q I) (45 + 2 * s) (nI i) = some (I (46 + 2 * s) i, mkX q I) := by
  unfold F_X4_read
  rw [S_r2 hs, bind_some', S_at hs hi, b2_some]
theorem pbL {fu s n : Nat} {x3 : Int32} (hs : s < 4) (hn : n ≤ 6) : ∀ (d k m : Nat) (SX SM : Hp) (c : Int32), k + d = n → d < m → (k = 0 ∨ ¬ x3 < 0) → Rel SX SM → ∃ (r : Int32) (SX1 SM1 : Hp), B_X7_peopleBy_64 fu 0 x3 (nI n) (some (45 + 2 * s)) m SX c (nI k) = some (r, SX1) ∧ B_X8_peopleBy_64 fu 0 (nI s) x3 (nI n) m SM c (nI k) = some (r, SM1) ∧ Rel SX1 SM1 := by
  intro d
  induction d with
  | zero =>
    intro k m SX SM c hk hm _ hr
    obtain ⟨m, rfl⟩ : ∃ q, m = q + 1 := ⟨m - 1, by omega⟩
    refine ⟨c, SX, SM, ?_, ?_, hr⟩
    · show L_X7_peopleBy_64 _ _ _ _ _ _ _ _ _ = _
      unfold L_X7_peopleBy_64
      rw [if_pos (nI_le (by omega) (by omega))]
    · show L_X8_peopleBy_64 _ _ _ _ _ _ _ _ _ = _
      unfold L_X8_peopleBy_64
      rw [if_pos (nI_le (by omega) (by omega))]
  | succ d ih =>
    intro k m SX SM c hk hm hneg hr
    obtain ⟨m, rfl⟩ : ∃ q, m = q + 1 := ⟨m - 1, by omega⟩
    obtain ⟨q, I, J, v, rfl, rfl, h⟩ := id hr
    have no : ∀ x : Int32, ∃ (r : Int32) (SX1 SM1 : Hp), (some (x, mkX q I) : Option (Int32 × Hp)) = some (r, SX1) ∧ (some (x, mkM J) : Option (Int32 × Hp)) = some (r, SM1) ∧ Rel SX1 SM1 := fun x => ⟨x, _, _, rfl, rfl, q, I, J, v, rfl, rfl, h⟩
    obtain ⟨y1, y2, ⟨z, hz, ez⟩, y4, y5⟩ := h.2.2.2.2.2.2.2.1 s hs
    show ∃ (r : Int32) (SX1 SM1 : Hp), L_X7_peopleBy_64 _ _ _ _ _ _ _ _ _ = _ ∧ L_X8_peopleBy_64 _ _ _ _ _ _ _ _ _ = _ ∧ _
    unfold L_X7_peopleBy_64 L_X8_peopleBy_64 B_X8_peopleBy_102
    have e2 : (2 : Int32).toInt = 2 := rfl
    have e0 : (0 : Int32).toInt = 0 := rfl
    rw [if_neg (nI_ge (by omega) (by omega)), if_neg (nI_ge (by omega) (by omega)), S_ob hs, bind_some', x_holds hs hz (y2.trans ez), b2_some, e2]
    by_cases hx : x3 < 0
    · obtain rfl : k = 0 := hneg.resolve_right (fun q => q hx)
      have e : x3 + (2 : Int32) * nI 0 = x3 := by
        rw [show (2 : Int32) * nI 0 = 0 from rfl, Int32.add_zero]
      rw [e, decide_eq_false (by rw [lt_I, e0] at hx; omega), if_pos bIf, if_pos hx]
      exact no _
    · obtain ⟨f, hf, rfl⟩ := nI_of hx
      rw [lit 2, nI_mul, nI_add, if_neg hx]
      by_cases hbig : f + 2 * k < 2 ^ 31
      · rw [nI_toInt hbig, if_neg (nI_nlt (by omega) (by omega)), M_r19, bind_some', M_g13 hs, bind_some', ez]
        by_cases hc : f + 2 * k + 2 ≤ z
        · rw [decide_eq_true (by omega), if_neg bIt, S_ob hs, bind_some', x_read hs (by omega), b2_some, S_ob hs, bind_some', nI_1, x_read hs (by omega), b2_some, X_o0, bind_some', pk_sub (by omega), if_pos (nI_le (by omega) (by omega)), M_r20, bind_some', lit 40, nI_mul, nI_add, M_g14 (by omega), bind_some', bind_some', nI_1, M_g14 (by omega), bind_some', M_ob, bind_some', y5 _ (by omega), y5 _ (by omega), Nat.add_assoc (40 * s)]
          obtain ⟨r, SX1, SM1, f1, f2, hr1⟩ := al_person (fu := fu) (mkX q I) (mkM J) hr (J 14 (40 * s + (f + 2 * k))) (J 14 (40 * s + (f + 2 * k + 1)))
          rw [f1, b2_some, f2, b2_some]
          unfold B_X7_peopleBy_119 B_X8_peopleBy_144
          rw [nI_1 k]
          by_cases hr0 : r < 0
          · rw [if_pos hr0, if_pos hr0, Int32.add_zero]
            exact ih (k + 1) m SX1 SM1 c (by omega) (by omega) (Or.inr hx) hr1
          · rw [if_neg hr0, if_neg hr0]
            exact ih (k + 1) m SX1 SM1 (c + 1) (by omega) (by omega) (Or.inr hx) hr1
        · have hd : (nI z - nI 2).toInt = (z : Int) - 2 := pk_sub_toInt (by omega) (by decide)
          rw [decide_eq_false (by omega), if_pos bIf, if_neg (by rw [le_I, hd, nI_toInt hbig]; omega)]
          exact no _
      · have hb := nI_big (n := f + 2 * k) (by omega) (by omega)
        rw [decide_eq_false (by omega), if_pos bIf, if_pos (by rw [lt_I, nI_toInt hf]; omega)]
        exact no _
theorem al_peopleBy {fu : Nat} (hfu : 200 < fu) : Al_peopleBy Rel fu := by
  rintro SX SM hr a1 a2 a3 a4
  obtain ⟨q, I, J, v, rfl, rfl, h⟩ := id hr
  have no : ∀ x : Int32, ∃ (r : Int32) (SX1 SM1 : Hp), (some (x, mkX q I) : Option (Int32 × Hp)) = some (r, SX1) ∧ (some (x, mkM J) : Option (Int32 × Hp)) = some (r, SM1) ∧ Rel SX1 SM1 := fun x => ⟨x, _, _, rfl, rfl, q, I, J, v, rfl, rfl, h⟩
  have e1 : F_X8_in (mkM J) a1 0 3 = some (bI (inb a1 4), mkM J) := m_in0 (by decide)
  have e2 : F_X8_in (mkM J) a2 0 2 = some (bI (inb a2 3), mkM J) := m_in0 (by decide)
  have e4 : F_X8_in (mkM J) a4 0 6 = some (bI (inb a4 7), mkM J) := m_in0 (by decide)
  have f2 : F_X7_fits (mkX q I) a2 3 = some (bI (inb a2 3), mkX q I) := x_fits (by decide)
  unfold F_X7_peopleBy F_X8_peopleBy B_X7_peopleBy_32 B_X8_peopleBy_29
  rw [X_o0, bind_some', e1, b2_some]
  cases hb1 : inb a1 4 with
  | false => rw [x_sheetNo hb1, b2_some, if_pos rfl, if_pos bIf]; exact no _
  | true =>
    obtain ⟨s, hs, rfl⟩ := inb_of hb1 (by decide)
    obtain ⟨y1, y2, ⟨z, hz, ez⟩, y4, y5⟩ := h.2.2.2.2.2.2.2.1 s hs
    rw [x_sheetAt hs, b2_some, if_neg (by simp), f2, b2_some, if_neg bIt, e2, b2_some]
    cases hb2 : inb a2 3 with
    | false => rw [if_pos bIf, if_pos bIf]; exact no _
    | true =>
      rw [if_neg bIt, if_neg bIt, e4, b2_some]
      have c0 : (0 : Int32).toInt = 0 := rfl
      have c6 : (6 : Int32).toInt = 6 := rfl
      cases hb4 : inb a4 7 with
      | false =>
        rw [if_pos bIf]
        by_cases h0 : a4 < 0
        · rw [if_pos h0]; exact no _
        · rw [if_neg h0, if_neg (by
            intro hc
            rw [lt_I, c0] at h0
            rw [le_I, c6] at hc
            exact absurd (show inb a4 7 = true from inb_iff.mpr ⟨by omega, by omega⟩) (by rw [hb4]; decide))]
          exact no _
      | true =>
        obtain ⟨n, hn, rfl⟩ := inb_of hb4 (by decide)
        rw [if_neg bIt, if_neg (nI_pos (by omega)), if_pos (by rw [lit 6]; exact nI_le (by omega) (by omega)), S_ob hs, bind_some', x_isMissing hs, b2_some, y1, M_r18, bind_some', M_g12 hs, bind_some']
        by_cases hm : J 12 s = -1
        · rw [decide_eq_true hm, if_neg bIt, if_pos hm]
          exact no _
        · rw [decide_eq_false hm, if_pos bIf, S_gI hs, bind_some', y1, if_neg hm, bind_some', M_g12 hs, bind_some']
          by_cases he : J 12 s = a2
          · rw [if_pos he, if_pos he]
            exact pbL hs (by omega) n 0 fu _ _ 0 (by omega) (by omega) (Or.inl rfl) hr
          · rw [if_neg he, if_neg he]
            exact no _
