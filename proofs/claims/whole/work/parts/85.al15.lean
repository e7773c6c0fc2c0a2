/-! feed -/
theorem Rv_tape {q : Xp} {I I' J J' : Nat → Nat → Int32} {v : Ev} (h : Rv q I J v) (ht : TP I' J') (fI : ∀ a, a ≠ 34 → a ≠ 35 → I' a = I a) (fJ : ∀ a, a ≠ 0 → a ≠ 7 → J' a = J a) (j0 : ∀ j, j ≠ 10 → J' 0 j = J 0 j) : Rv q I' J' v := by
  have lt : ∀ {r c b}, LT q I J r c b → LT q I' J' r c b := fun h => LT_mono h (fI _ (by omega) (by omega)) (fI _ (by omega) (by omega)) (fJ 9 (by omega) (by omega)) (fJ 8 (by omega) (by omega))
  obtain ⟨a1, a2, a3, a4, ⟨r, c1, c2, c3, c4⟩, ⟨t1, t2, t3, t4, t5⟩, -, a8, ⟨i1, i2⟩, a10⟩ := h
  refine ⟨EX_mono a1 (fun i hi => fI _ (by omega) (by omega)), ?_, a3, a4, ⟨r, ?_, ?_, c3, lt c4⟩, ⟨t1, t2, ?_, ?_, fun t ht => ?_⟩, ht, ?_, ⟨?_, ?_⟩, ?_⟩
  · unfold EM
    rw [j0 0 (by omega), j0 7 (by omega), j0 8 (by omega), fJ 1 (by omega) (by omega), fJ 2 (by omega) (by omega), fJ 3 (by omega) (by omega), fJ 4 (by omega) (by omega), fJ 5 (by omega) (by omega), fJ 6 (by omega) (by omega)]
    exact a2
  · rw [fI 1 (by omega) (by omega)]; exact c1
  · rw [j0 14 (by omega)]; exact c2
  · rw [fI 0 (by omega) (by omega)]; exact t3
  · rw [j0 13 (by omega)]; exact t4
  · obtain ⟨c, b, hcb⟩ := t5 t ht
    exact ⟨c, b, lt hcb⟩
  · intro s hs4
    rw [fI (45 + 2 * s) (by omega) (by omega), fI (46 + 2 * s) (by omega) (by omega), fJ 12 (by omega) (by omega), fJ 13 (by omega) (by omega), fJ 14 (by omega) (by omega)]
    exact a8 s hs4
  · rw [fI 0 (by omega) (by omega), j0 15 (by omega)]; exact i1
  · rw [j0 15 (by omega)]
    rcases i2 with h | ⟨h, w, w1, w2, w3, w4, r', l1, l2, l3, l4⟩
    · exact Or.inl h
    · refine Or.inr ⟨h, w, EX_mono w1 (fun i hi => fI _ (by omega) (by omega)), w2, w3, ?_, r', ?_, ?_, l3, lt l4⟩
      · unfold IMG
        rw [fJ 10 (by omega) (by omega), fJ 11 (by omega) (by omega)]
        exact w4
      · rw [fI 23 (by omega) (by omega)]; exact l1
      · rw [fJ 11 (by omega) (by omega)]; exact l2
  · rw [fJ 16 (by omega) (by omega)]; exact a10
theorem al_feed {fu : Nat} (hfu : 200 < fu) : Al_feed Rel fu := by
  rintro SX SM ⟨q, I, J, v, rfl, rfl, h⟩ a1 a2 a3 a4 a5 a6
  obtain ⟨n, n1, n2, n3, n4⟩ := h.2.2.2.2.2.2.1
  have no : ∃ (r : Int32) (SX1 SM1 : Hp), (some (-2, mkX q I) : Option (Int32 × Hp)) = some (r, SX1) ∧ (some (-2, mkM J) : Option (Int32 × Hp)) = some (r, SM1) ∧ Rel SX1 SM1 := ⟨-2, _, _, rfl, rfl, q, I, J, v, rfl, rfl, h⟩
  have ein : F_X8_in (mkM J) a1 1 5 = some (bI (decide (1 ≤ a1 ∧ a1 ≤ 5)), mkM J) := m_in
  have e1' : (1 : Int32).toInt = 1 := rfl
  have e5' : (5 : Int32).toInt = 5 := rfl
  have anyM : ∀ {X : Option (Int32 × Hp)}, X = some (-2, mkM J) → (if bI (decide (1 ≤ a1 ∧ a1 ≤ 5)) = 0 then (some (-2, mkM J) : Option (Int32 × Hp)) else X) = some (-2, mkM J) := fun hX => by
    cases decide (1 ≤ a1 ∧ a1 ≤ 5) with
    | false => exact if_pos bIf
    | true => rw [if_neg bIt]; exact hX
  unfold F_X7_feed F_X8_feed B_X8_feed_47
  rw [x_isByte, b2_some, ein, b2_some, m_isByte, b2_some]
  cases h2 : inb a2 256 with
  | false => rw [if_pos bIf, feed_no, if_pos bIf]; rw [anyM rfl]; exact no
  | true =>
    rw [if_neg bIt, if_neg bIt, x_isByte, b2_some, m_isByte, b2_some]
    cases h3 : inb a3 256 with
    | false => rw [if_pos bIf, feed_no, if_pos bIf]; rw [anyM rfl]; exact no
    | true =>
      rw [if_neg bIt, if_neg bIt, x_isByte, b2_some, m_isByte, b2_some]
      cases h4 : inb a4 256 with
      | false => rw [if_pos bIf, feed_no, if_pos bIf]; rw [anyM rfl]; exact no
      | true =>
        rw [if_neg bIt, if_neg bIt, x_isByte, b2_some, m_isByte, b2_some]
        cases h5 : inb a5 256 with
        | false => rw [if_pos bIf, feed_no, if_pos bIf]; rw [anyM rfl]; exact no
        | true =>
          rw [if_neg bIt, if_neg bIt, x_isByte, b2_some, m_isByte, b2_some]
          cases h6 : inb a6 256 with
          | false => rw [if_pos bIf, feed_no, if_pos bIf]; rw [anyM rfl]; exact no
          | true =>
            rw [if_neg bIt, if_neg bIt]
            unfold B_X7_feed_43 B_X7_feed_60
            by_cases hr : 1 ≤ a1 ∧ a1 ≤ 5
            · rw [decide_eq_true hr, if_neg bIt]
              obtain ⟨g1, g2⟩ := hr
              rw [le_I, e1'] at g1
              rw [le_I, e5'] at g2
              obtain ⟨m, hm, rfl⟩ : ∃ m, m ≤ 5 ∧ a1 = nI m := ⟨a1.toInt.toNat, by omega, by rw [eq_I, nI_toInt (by omega)]; omega⟩
              rw [if_neg (show ¬ nI m < 1 by rw [lt_I, e1']; omega), if_neg (show ¬ (5 : Int32) < nI m by rw [lt_I, e5']; omega), if_neg (show ¬ (1 : Int32) = 0 by decide), X_r4, bind_some', X_g34, bind_some', n2, M_gI, bind_some', n3, nI_add, lit 160]
              by_cases hc : n + m ≤ 160
              · rw [if_pos (nI_le hc (by decide)), if_pos (nI_le hc (by decide))]
                obtain ⟨I1, ⟨s1, x1, x2⟩, f1⟩ := x_feedL (q := q) (fu := fu) (x2 := a2) (x3 := a3) (x4 := a4) (x5 := a5) (x6 := a6) n2 hm hc hfu
                obtain ⟨J1, ⟨s2, y0, y1, y2⟩, f2⟩ := m_feedL (fu := fu) (x2 := a2) (x3 := a3) (x4 := a4) (x5 := a5) (x6 := a6) n3 hm hc hfu
                refine ⟨nI (n + m), _, _, f1, f2, q, I1, J1, v, rfl, rfl, Rv_tape h ⟨n + m, hc, x1, y1, fun i hi => ?_⟩ (fun a h1 h2 => s1 a (by omega)) (fun a h1 h2 => s2 a (by simp; omega)) y0⟩
                rw [x2 i, y2 i]
                by_cases hin : n ≤ i ∧ i < n + m
                · rw [if_pos hin, if_pos hin]
                  refine ⟨rfl, ?_⟩
                  unfold byN
                  split
                  · exact inb_of h2 (by decide)
                  split
                  · exact inb_of h3 (by decide)
                  split
                  · exact inb_of h4 (by decide)
                  split
                  · exact inb_of h5 (by decide)
                  · exact inb_of h6 (by decide)
                · rw [if_neg hin, if_neg hin]
                  exact n4 i (by omega)
              · rw [if_neg (nI_ge (by omega) (by omega)), if_neg (nI_ge (by omega) (by omega))]
                exact ⟨-4, _, _, rfl, rfl, q, I, J, v, rfl, rfl, h⟩
            · rw [decide_eq_false hr, if_pos bIf]
              by_cases hl : a1 < 1
              · rw [if_pos hl]; exact no
              · rw [if_neg hl, if_pos (show (5 : Int32) < a1 by
                  rw [lt_I, e1'] at hl
                  rw [lt_I, e5']
                  by_cases hx : a1.toInt ≤ 5
                  · exact absurd ⟨by rw [le_I, e1']; omega, by rw [le_I, e5']; omega⟩ hr
                  · omega)]
                exact no
