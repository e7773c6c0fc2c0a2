/-! what is taken to be what -/
def und (k b : Nat) : Bool := decide (b = 0) || (decide (k = b) || ((decide (b = 1) && decide (k = 3)) || (decide (b = 2) && decide (k = 4))))
theorem x_isOne {S : Hp} {fu k b : Nat} (hk : k < 6) (hb : b < 6) (hfu : 200 < fu) : F_X1_isOne fu S (nI k) (nI b) = some (bI (und k b), S) := by
  obtain ⟨m, rfl⟩ : ∃ m, fu = m + 8 := ⟨fu - 8, by omega⟩
  rcases (show k = 0 ∨ k = 1 ∨ k = 2 ∨ k = 3 ∨ k = 4 ∨ k = 5 by omega) with rfl | rfl | rfl | rfl | rfl | rfl <;> rcases (show b = 0 ∨ b = 1 ∨ b = 2 ∨ b = 3 ∨ b = 4 ∨ b = 5 by omega) with rfl | rfl | rfl | rfl | rfl | rfl <;> rfl
theorem m_isUnder {S : Hp} {k b : Nat} (hk : k < 6) (hb : b < 6) : F_X8_isUnder S (nI k) (nI b) = some (bI (und k b), S) := by
  rcases (show k = 0 ∨ k = 1 ∨ k = 2 ∨ k = 3 ∨ k = 4 ∨ k = 5 by omega) with rfl | rfl | rfl | rfl | rfl | rfl <;> rcases (show b = 0 ∨ b = 1 ∨ b = 2 ∨ b = 3 ∨ b = 4 ∨ b = 5 by omega) with rfl | rfl | rfl | rfl | rfl | rfl <;> rfl
theorem sub6_no {n W : Nat} (hn : n < 6) (hW : W < 2 ^ 20) : inb (nI n - 6) W = false := by
  cases h : inb (nI n - 6) W with
  | false => rfl
  | true =>
    rw [inb_iff, lit 6, pk_sub_toInt (b := 6) (by omega) (by decide)] at h
    omega
theorem al_taken {fu : Nat} (hfu : 200 < fu) : Al_taken Rel fu := by
  rintro SX SM ⟨q, I, J, v, rfl, rfl, h⟩ a1 a2
  have hM := Rv_M h
  have hP6 := h.1.1.2
  have hW10 := h.1.2.1.2
  unfold F_X7_taken F_X8_taken
  have e6 : F_X8_in (mkM J) a2 0 6 = some (bI (inb a2 7), mkM J) := m_in0 (by decide)
  have e15 : F_X8_in (mkM J) a1 0 15 = some (bI (inb a1 16), mkM J) := m_in0 (by decide)
  have f7 : F_X7_fits (mkX q I) a2 7 = some (bI (inb a2 7), mkX q I) := x_fits (by decide)
  have f16 : F_X7_fits (mkX q I) a1 16 = some (bI (inb a1 16), mkX q I) := x_fits (by decide)
  rw [f7, b2_some, e6, b2_some]
  cases hb2 : inb a2 7 with
  | false => exact ⟨-2, _, _, by rw [if_pos bIf], by rw [if_pos bIf], q, I, J, v, rfl, rfl, h⟩
  | true =>
    rw [if_neg bIt, if_neg bIt, f16, b2_some, e15, b2_some]
    cases hb1 : inb a1 16 with
    | false => exact ⟨-12, _, _, by rw [if_pos bIf], by rw [if_pos bIf], q, I, J, v, rfl, rfl, h⟩
    | true =>
      obtain ⟨n, hn, rfl⟩ := inb_of hb1 (by decide)
      obtain ⟨b, hb, rfl⟩ := inb_of hb2 (by decide)
      have s6 : 6 ≤ n → nI n - 6 = nI (n - 6) := fun h6 => by rw [lit 6, pk_sub h6]
      have c6 : (nI b = 6) = (b = 6) := propext ⟨fun h => nI_inj (by omega) (by decide) h, fun h => by rw [h]; rfl⟩
      have l6 : (nI n < 6) = (n < 6) := propext ⟨fun h => by
        by_cases h6 : n < 6
        · exact h6
        · exact absurd h (by rw [lit 6]; exact nI_nlt (by omega) (by omega)), fun h => by rw [lit 6]; exact nI_lt h (by decide)⟩
      rw [if_neg bIt, if_neg bIt, X_r0, bind_some', E_ob eE1, bind_some', x_hasPerson eE1 h.1, b2_some]
      by_cases h6 : n < 6
      · rw [if_pos (show nI n < 6 from l6 ▸ h6), M_gI, bind_some', hM.1.1]
        by_cases hp : n < vP v
        · have hkk := (h.2.2.1.1 n hp).1
          obtain ⟨k, hk, ek⟩ := hkk
          rw [inb_nI hp (by omega), if_neg bIt, if_pos (nI_lt hp (by omega))]
          unfold B_X7_taken_54 B_X7_taken_87 B_X7_taken_121 B_X7_taken_123 B_X8_taken_110 B_X8_taken_112
          by_cases hb6 : b = 6
          · refine ⟨-13, _, _, ?_, ?_, q, I, J, v, rfl, rfl, h⟩
            · rw [if_pos (show nI b = 6 from c6 ▸ hb6), X_r0, bind_some', E_ob eE1, bind_some', x_hasWrong eE1 h.1, b2_some, sub6_no h6 (by omega), if_pos bIf]
            · rw [if_pos (by rw [lit 6]; exact nI_le (by omega) (by omega))]
          · rw [if_neg (show ¬ nI b = 6 from fun q => hb6 (c6 ▸ q)), X_r0, bind_some', E_ob eE1, bind_some', x_hasPerson eE1 h.1, b2_some, inb_nI hp (by omega), if_neg bIt, X_r0, bind_some', E_r1 eE1, bind_some', E_a1 eE1 (by omega), b2_some, (h.1.2.2.2.1 n hp).1, ek, x_isOne hk (by omega) hfu, b2_some, if_neg (show ¬ (6 : Int32) ≤ nI b by rw [lit 6]; exact nI_ge (by omega) (by omega)), M_r1, bind_some', M_g1 (by omega), bind_some', (RM_p hM hp).1, ek, m_isUnder hk (by omega), b2_some]
            cases und k b with
            | false => exact ⟨-13, _, _, by rw [if_pos bIf], by rw [if_pos bIf], q, I, J, v, rfl, rfl, h⟩
            | true => exact ⟨nI n, _, _, by rw [if_neg bIt], by rw [if_neg bIt], q, I, J, v, rfl, rfl, h⟩
        · rw [inb_no (by omega) (by omega), if_pos bIf, X_r0, bind_some', E_ob eE1, bind_some', x_hasWrong eE1 h.1, b2_some, sub6_no h6 (by omega), if_pos bIf, if_neg (nI_nlt (by omega) (by omega))]
          exact ⟨-11, _, _, rfl, rfl, q, I, J, v, rfl, rfl, h⟩
      · rw [if_neg (show ¬ nI n < 6 from fun q => h6 (l6 ▸ q)), inb_no (by omega) (by omega), if_pos bIf, X_r0, bind_some', E_ob eE1, bind_some', x_hasWrong eE1 h.1, b2_some, M_gI, bind_some', hM.2.1.1, s6 (by omega)]
        unfold B_X7_taken_54 B_X7_taken_87 B_X7_taken_121 B_X7_taken_123 B_X8_taken_73
        by_cases hw : n - 6 < vW v
        · rw [inb_nI hw (by omega), if_neg bIt, if_pos (nI_lt hw (by omega))]
          by_cases hb6 : b = 6
          · have ew : F_X8_within (mkM J) (nI (n - 6)) 0 9 = some (nI (n - 6), mkM J) := by
              rw [m_within]
              unfold clamp
              rw [if_pos (by rw [lit 0]; exact nI_le (by omega) (by omega)), if_pos (by rw [lit 9]; exact nI_le (by omega) (by omega))]
            rw [if_pos (show nI b = 6 from c6 ▸ hb6), if_pos (show nI b = 6 from c6 ▸ hb6), X_r0, bind_some', E_ob eE1, bind_some', x_hasWrong eE1 h.1, b2_some, inb_nI hw (by omega), if_neg bIt, X_r0, bind_some', E_r7 eE1, bind_some', E_a6 eE1 (by omega), b2_some, (h.1.2.2.2.2 _ hw).2.1, M_r5, bind_some', ew, b2_some, M_g5 (by omega), bind_some', (RM_k hM hw).2.1]
            exact ⟨vWt v (n - 6), _, _, rfl, rfl, q, I, J, v, rfl, rfl, h⟩
          · rw [if_neg (show ¬ nI b = 6 from fun q => hb6 (c6 ▸ q)), if_neg (show ¬ nI b = 6 from fun q => hb6 (c6 ▸ q)), X_r0, bind_some', E_ob eE1, bind_some', x_hasPerson eE1 h.1, b2_some, inb_no (by omega) (by omega), if_pos bIf]
            exact ⟨-13, _, _, rfl, rfl, q, I, J, v, rfl, rfl, h⟩
        · rw [inb_no (by omega) (by omega), if_pos bIf, if_neg (nI_nlt (by omega) (by omega))]
          exact ⟨-11, _, _, rfl, rfl, q, I, J, v, rfl, rfl, h⟩
