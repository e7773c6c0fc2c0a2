/-! a wrong is told -/
theorem and_split (x m : Int32) : x = (x &&& m) ||| (x &&& (m ^^^ -1)) := by
  apply Int32.toBitVec_inj.mp
  show x.toBitVec = (x.toBitVec &&& m.toBitVec) ||| (x.toBitVec &&& (m.toBitVec ^^^ (-1 : Int32).toBitVec))
  have e : (-1 : Int32).toBitVec = BitVec.allOnes 32 := by decide
  rw [e]
  apply BitVec.eq_of_getLsbD_eq
  intro i hi
  rw [BitVec.getLsbD_or, BitVec.getLsbD_and, BitVec.getLsbD_and, BitVec.getLsbD_xor, BitVec.getLsbD_allOnes, decide_eq_true hi]
  cases x.toBitVec.getLsbD i <;> cases m.toBitVec.getLsbD i <;> rfl
theorem mask_b : ∀ P, P < 7 → ∀ j, j < 64 → j < 2 ^ P → (nI j &&& ((nI (2 ^ P) - 1) ^^^ -1)) = 0 := by decide +kernel
theorem mask_f {x : Int32} {P : Nat} (hP : P < 7) : ∃ j, j < 2 ^ P ∧ x &&& (nI (2 ^ P) - 1) = nI j := by
  rcases (show P = 0 ∨ P = 1 ∨ P = 2 ∨ P = 3 ∨ P = 4 ∨ P = 5 ∨ P = 6 by omega) with rfl | rfl | rfl | rfl | rfl | rfl | rfl
  · exact ⟨0, by decide, by show x &&& 0 = 0; exact Int32.and_zero⟩
  · exact pk_andE x (m := 1) 1 (by decide)
  · exact pk_andE x (m := 3) 2 (by decide)
  · exact pk_andE x (m := 7) 3 (by decide)
  · exact pk_andE x (m := 15) 4 (by decide)
  · exact pk_andE x (m := 31) 5 (by decide)
  · exact pk_andE x (m := 63) 6 (by decide)
theorem pow_P {P : Nat} (hP : P < 7) : 2 ^ P ≤ 64 := Nat.pow_le_pow_right (by omega) (show P ≤ 6 by omega)
theorem mask0 {x : Int32} {P : Nat} (hP : P < 7) : ((x &&& ((((1 : Int32) <<< (nI P &&& 31)) - 1) ^^^ -1)) = 0) = (inb x (2 ^ P) = true) := by
  have h64 := pow_P hP
  rw [sh_n P (by omega)]
  refine propext ⟨fun h => ?_, fun h => ?_⟩
  · obtain ⟨j, hj, ej⟩ := mask_f (x := x) hP
    have hx : x = nI j := by
      have := and_split x (nI (2 ^ P) - 1)
      rw [h, ej, Int32.or_zero] at this
      exact this
    rw [hx]
    exact inb_nI hj (by omega)
  · obtain ⟨j, hj, rfl⟩ := inb_of h (by omega)
    exact mask_b P hP j (by omega) hj
theorem m_in1 {S : Hp} {x : Int32} {N : Nat} (hN : N < 2 ^ 30) : F_X8_in S x 1 (nI N - 1) = some (bI (decide (x ≠ 0) && inb x N), S) := by
  rw [m_in]
  congr 3
  rw [← in0 hN, Bool.eq_iff_iff, Bool.and_eq_true, decide_eq_true_iff, decide_eq_true_iff, decide_eq_true_iff]
  have e0 : (0 : Int32).toInt = 0 := rfl
  have e1 : (1 : Int32).toInt = 1 := rfl
  simp only [le_I, ne_eq, eq_I, e0, e1]
  omega
def addW (v : Ev) (d w s : Int32) : Ev := (vP v, vW v + 1, vDay v, vKind v, vMore v, vPride v, vName v, updf (vDo v) (vW v) d, updf (vWt v) (vW v) w, updf (vSw v) (vW v) s, vCode v, vBnd v)
theorem al_wrong {fu : Nat} : Al_wrong Rel fu := by
  rintro SX SM ⟨q, I, J, v, rfl, rfl, h⟩ a1 a2 a3
  obtain ⟨hPX, hP6⟩ := h.1.1
  obtain ⟨hPM, -⟩ := h.2.1.1
  obtain ⟨hWX, hW10⟩ := h.1.2.1
  obtain ⟨hWM, -⟩ := h.2.1.2.1
  have h64 := pow_P (P := vP v) (by omega)
  unfold F_X7_wrong F_X8_wrong B_X7_wrong_39 B_X7_wrong_40 B_X7_wrong_64 B_X8_wrong_46
  have ein3 : F_X8_in (mkM J) a3 0 (nI (2 ^ vP v) - 1) = some (bI (inb a3 (2 ^ vP v)), mkM J) := by rw [m_in, in0 (by omega)]
  have ein2 : F_X8_in (mkM J) a2 1 9 = some (bI (decide (1 ≤ a2 ∧ a2 ≤ 9)), mkM J) := m_in
  have M1 : ∀ x : Int32, ((x &&& ((((1 : Int32) <<< (nI (vP v) &&& 31)) - 1) ^^^ -1)) = 0) = (inb x (2 ^ vP v) = true) := fun x => mask0 (by omega)
  rw [X_r0, bind_some', E_gI eE1, bind_some', hPX, M_gI, bind_some', hPM, bind_some', sh_n _ (by omega : vP v < 12)]
  have ein1 : F_X8_in (mkM J) a1 1 (nI (2 ^ vP v) - 1) = some (bI (decide (a1 ≠ 0) && inb a1 (2 ^ vP v)), mkM J) := m_in1 (by omega)
  rw [ein1, b2_some]
  have no : ∃ (r : Int32) (SX1 SM1 : Hp), (some (-2, mkX q I) : Option (Int32 × Hp)) = some (r, SX1) ∧ (some (-2, mkM J) : Option (Int32 × Hp)) = some (r, SM1) ∧ Rel SX1 SM1 := ⟨-2, _, _, rfl, rfl, q, I, J, v, rfl, rfl, h⟩
  rw [sh_n _ (by omega : vP v < 12)] at M1
  by_cases h0 : a1 = 0
  · rw [if_pos h0, if_pos (show (0 : Int32) = 0 from rfl), decide_eq_false (fun q => q h0), Bool.false_and, if_pos bIf]
    exact no
  rw [if_neg h0, decide_eq_true h0, Bool.true_and]
  cases h1 : inb a1 (2 ^ vP v) with
  | false =>
    rw [if_neg (show ¬ _ = _ from fun q => by have := (M1 a1).mp q; rw [h1] at this; exact absurd this (by decide)), if_pos (show (0 : Int32) = 0 from rfl), if_pos bIf]
    exact no
  | true =>
    rw [if_pos ((M1 a1).mpr h1), if_neg bIt, ein2, b2_some]
    obtain ⟨d, hd, ed⟩ := inb_of h1 (by omega)
    cases h3 : inb a3 (2 ^ vP v) with
    | false =>
      rw [if_neg (show ¬ _ = _ from fun q => by have := (M1 a3).mp q; rw [h3] at this; exact absurd this (by decide)), if_pos (show (0 : Int32) = 0 from rfl)]
      cases decide (1 ≤ a2 ∧ a2 ≤ 9) with
      | false => rw [if_pos bIf]; exact no
      | true => rw [if_neg bIt, ein3, b2_some, h3, if_pos bIf]; exact no
    | true =>
      obtain ⟨s, hs, es⟩ := inb_of h3 (by omega)
      rw [if_pos ((M1 a3).mpr h3), if_neg (show ¬ (1 : Int32) = 0 by decide)]
      by_cases h2 : 1 ≤ a2 ∧ a2 ≤ 9
      · rw [decide_eq_true h2, if_neg bIt, ein3, b2_some, h3, if_neg bIt]
        by_cases hc : (a1 &&& a3) = 0
        · have e1' : (1 : Int32).toInt = 1 := rfl
          have e9 : (9 : Int32).toInt = 9 := rfl
          obtain ⟨g1, g2⟩ := h2
          rw [le_I, e1'] at g1
          rw [le_I, e9] at g2
          obtain ⟨w, hw, ew⟩ : ∃ w, w < 10 ∧ a2 = nI w := ⟨a2.toInt.toNat, by omega, by rw [eq_I, nI_toInt (by omega)]; omega⟩
          rw [if_pos hc, if_pos hc, if_neg (show ¬ a2 < 1 by rw [lt_I, e1']; omega), if_pos (show a2 ≤ 9 by rw [le_I, e9]; omega), E_ob eE1, bind_some', M_gI, bind_some', hWM]
          unfold F_X0_add B_X7_wrong_94
          rw [E_gI eE1, bind_some', hWX, lit 10, eq_iff_nI (by omega) (by decide)]
          by_cases h10 : vW v = 10
          · exact ⟨-4, _, _, by rw [if_neg (nI_nlt (by omega) (by omega)), show zb (0 : Int32) (mkX q I) = some (0, mkX q I) from rfl, b2_some, if_pos rfl], by rw [if_pos h10], q, I, J, v, rfl, rfl, h⟩
          · rw [if_pos (nI_lt (by omega) (by decide)), if_neg h10, E_r6 eE1, bind_some', bind_some', E_s5 eE1 (by omega), bind_some', E_r7 eE1, bind_some', E_gI eE1, bind_some', up2_o (by decide), hWX, E_s6 eE1 (by omega), bind_some', E_r8 eE1, bind_some', E_gI eE1, bind_some', up2_o (by decide), up2_o (by decide), hWX, E_s7 eE1 (by omega), bind_some', E_gI eE1, bind_some', up2_o (by decide), up2_o (by decide), up2_o (by decide), hWX, nI_1, E_pI eE1, bind_some', show ∀ S, zb (1 : Int32) S = some (1, S) from fun _ => rfl, b2_some, if_neg (show ¬ (1 : Int32) = 0 by decide), X_r0, bind_some', E_gI eE1, bind_some', up2_s]
            rw [M_r4, bind_some', bind_some', M_p4 (by omega), bind_some', M_r5, bind_some', M_gI, bind_some', up2_o (by decide), hWM, M_p5 (by omega), bind_some', M_r6, bind_some', M_gI, bind_some', up2_o (by decide), up2_o (by decide), hWM, M_p6 (by omega), bind_some', M_gI, bind_some', up2_o (by decide), up2_o (by decide), up2_o (by decide), hWM, nI_1, M_pI, bind_some', M_gI, bind_some', up2_s]
            refine ⟨nI (vW v + 1) - 1, _, _, rfl, rfl, q, _, _, addW v a1 a2 a3, rfl, rfl, ?_⟩
            refine Rv_ev (v' := addW v a1 a2 a3) h ⟨?_, ⟨up2_s, by show vW v + 1 ≤ 10; omega⟩, ?_, ?_, ?_⟩ ⟨?_, ⟨up2_s, by show vW v + 1 ≤ 10; omega⟩, ?_, ?_, ?_⟩ ⟨h.2.2.1.1, ?_⟩ h.2.2.2.1 ⟨rfl, rfl, rfl⟩ ?_ ?_ ?_ ?_ ?_ ?_ ?_
            · exact h.1.1
            · exact h.1.2.2.1
            · exact h.1.2.2.2.1
            · intro i hi
              have hi : i < vW v + 1 := hi
              show up2 _ _ _ _ _ _ = updf _ _ _ _ ∧ up2 _ _ _ _ _ _ = updf _ _ _ _ ∧ up2 _ _ _ _ _ _ = updf _ _ _ _
              rw [up2_o (by decide), up2_o (by decide), up2_o (by decide), up2_row, up2_o (by decide), up2_o (by decide), up2_row, up2_o (by decide), up2_o (by decide), up2_row, up2_o (by decide), up2_o (by decide)]
              unfold updf
              by_cases hip : i = vW v
              · rw [if_pos hip, if_pos hip, if_pos hip, if_pos hip, if_pos hip, if_pos hip]
                exact ⟨rfl, rfl, rfl⟩
              · rw [if_neg hip, if_neg hip, if_neg hip, if_neg hip, if_neg hip, if_neg hip]
                exact h.1.2.2.2.2 i (by omega)
            · exact h.2.1.1
            · exact h.2.1.2.2.1
            · exact h.2.1.2.2.2.1
            · intro i hi
              have hi : i < vW v + 1 := hi
              show up2 _ _ _ _ _ _ = updf _ _ _ _ ∧ up2 _ _ _ _ _ _ = updf _ _ _ _ ∧ up2 _ _ _ _ _ _ = updf _ _ _ _
              rw [up2_o (by decide), up2_o (by decide), up2_o (by decide), up2_row, up2_o (by decide), up2_o (by decide), up2_row, up2_o (by decide), up2_o (by decide), up2_row, up2_o (by decide), up2_o (by decide)]
              unfold updf
              by_cases hip : i = vW v
              · rw [if_pos hip, if_pos hip, if_pos hip, if_pos hip, if_pos hip, if_pos hip]
                exact ⟨rfl, rfl, rfl⟩
              · rw [if_neg hip, if_neg hip, if_neg hip, if_neg hip, if_neg hip, if_neg hip]
                exact h.2.1.2.2.2.2 i (by omega)
            · intro i hi
              have hi : i < vW v + 1 := hi
              show (∃ k, k < 64 ∧ updf _ _ _ _ = nI k) ∧ (∃ k, k < 10 ∧ updf _ _ _ _ = nI k) ∧ ∃ k, k < 64 ∧ updf _ _ _ _ = nI k
              by_cases hip : i = vW v
              · subst hip
                rw [updf_s, updf_s, updf_s]
                exact ⟨⟨d, by omega, ed⟩, ⟨w, hw, ew⟩, ⟨s, by omega, es⟩⟩
              · rw [updf_o hip, updf_o hip, updf_o hip]
                exact h.2.2.1.2 i (by omega)
            · obtain ⟨r', c1, c2, c3, c4⟩ := h.2.2.2.2.1
              exact ⟨r', c1, c2, c3, LT_mono c4 (funext fun b => by rw [up2_o (by omega), up2_o (by omega), up2_o (by omega), up2_o (by omega)]) (funext fun b => by rw [up2_o (by omega), up2_o (by omega), up2_o (by omega), up2_o (by omega)]) rfl rfl⟩
            · intro a ha
              funext b
              rw [up2_o (EC_lo ha 1 (by omega) (by omega)), up2_o (EC_lo ha 8 (by omega) (by omega)), up2_o (EC_lo ha 7 (by omega) (by omega)), up2_o (EC_lo ha 6 (by omega) (by omega))]
            · intro a h7 _
              funext b
              rw [up2_o (by omega), up2_o (by omega), up2_o (by omega), up2_o (by omega)]
            · rfl
            · rfl
            · rfl
            · exact fun w hw => IMG_same hw rfl rfl (Nat.le_refl _) (fun p hp => ⟨rfl, rfl⟩)
        · rw [if_neg hc, if_neg hc]
          exact no
      · rw [decide_eq_false h2, if_pos bIf]
        by_cases hc : (a1 &&& a3) = 0
        · rw [if_pos hc]
          by_cases hl : a2 < 1
          · rw [if_pos hl]; exact no
          · rw [if_neg hl, if_neg (fun q => h2 ⟨by rw [le_I]; rw [lt_I] at hl; omega, q⟩)]
            exact no
        · rw [if_neg hc]
          exact no
