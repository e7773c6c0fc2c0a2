/-! sheets -/
theorem Rv_sh {q : Xp} {I I' J J' : Nat → Nat → Int32} {v : Ev} (h : Rv q I J v) (hs : SH I' J') (fI : ∀ a, a < 45 ∨ 53 ≤ a → I' a = I a) (fJ : ∀ a, a ≤ 11 ∨ (15 ≤ a ∧ a ≤ 16) → J' a = J a) : Rv q I' J' v := by
  have lt : ∀ {r c b}, LT q I J r c b → LT q I' J' r c b := fun h => LT_mono h (fI _ (by omega)) (fI _ (by omega)) (fJ 9 (by omega)) (fJ 8 (by omega))
  obtain ⟨a1, a2, a3, a4, ⟨r, c1, c2, c3, c4⟩, ⟨t1, t2, t3, t4, t5⟩, ⟨n, n1, n2, n3, n4⟩, a8, ⟨i1, i2⟩, a10⟩ := h
  refine ⟨EX_mono a1 (fun i hi => fI _ (by omega)), ?_, a3, a4, ⟨r, ?_, ?_, c3, lt c4⟩, ⟨t1, t2, ?_, ?_, fun t ht => ?_⟩, ⟨n, n1, ?_, ?_, ?_⟩, hs, ⟨?_, ?_⟩, ?_⟩
  · unfold EM
    rw [fJ 0 (by omega), fJ 1 (by omega), fJ 2 (by omega), fJ 3 (by omega), fJ 4 (by omega), fJ 5 (by omega), fJ 6 (by omega)]
    exact a2
  · rw [fI 1 (by omega)]; exact c1
  · rw [fJ 0 (by omega)]; exact c2
  · rw [fI 0 (by omega)]; exact t3
  · rw [fJ 0 (by omega)]; exact t4
  · obtain ⟨c, b, hcb⟩ := t5 t ht
    exact ⟨c, b, lt hcb⟩
  · rw [fI 34 (by omega)]; exact n2
  · rw [fJ 0 (by omega)]; exact n3
  · rw [fI 35 (by omega), fJ 7 (by omega)]; exact n4
  · rw [fI 0 (by omega), fJ 0 (by omega)]; exact i1
  · rw [fJ 0 (by omega)]
    rcases i2 with h | ⟨h, w, w1, w2, w3, w4, r', l1, l2, l3, l4⟩
    · exact Or.inl h
    · refine Or.inr ⟨h, w, EX_mono w1 (fun i hi => fI _ (by omega)), w2, w3, ?_, r', ?_, ?_, l3, lt l4⟩
      · unfold IMG
        rw [fJ 10 (by omega), fJ 11 (by omega)]
        exact w4
      · rw [fI 23 (by omega)]; exact l1
      · rw [fJ 11 (by omega)]; exact l2
  · rw [fJ 16 (by omega)]; exact a10
theorem X_o43 {q : Xp} {I : Nat → Nat → Int32} : ob (mkX q I) 9 (some 43) = some 43 := X_ob (by decide) rfl
theorem x_sheetAt {q : Xp} {I : Nat → Nat → Int32} {s : Nat} (hs : s < 4) : F_X7_sheetAt (mkX q I) 0 (nI s) = some (some (45 + 2 * s), mkX q I) := by
  unfold F_X7_sheetAt B_X7_sheetAt_23
  have e1 : aL (mkX q I) (some 43) 9 = some (nI 4) := by
    unfold aL
    rw [X_o43]
    rfl
  have e2 : rG (mkX q I) (some 43) 9 (nI s) = some (some (45 + 2 * s)) := by
    unfold rG
    rw [X_o43, bind_some']
    show (if inb (nI s) 4 = true then some (rvX q 43 (nI s).toNatClampNeg) else none) = _
    rw [if_pos (inb_nI (by omega) (by decide)), nI_clamp (by omega)]
    show some (if s < 4 then some (45 + 2 * s) else none) = _
    rw [if_pos hs]
  rw [if_neg (nI_pos (by omega)), X_r8, bind_some', e1, bind_some', if_neg (nI_ge (by omega) (by decide)), bind_some', e2, bind_some']
theorem x_sheetNo {q : Xp} {I : Nat → Nat → Int32} {x : Int32} (hx : inb x 4 = false) : F_X7_sheetAt (mkX q I) 0 x = some (none, mkX q I) := by
  unfold F_X7_sheetAt B_X7_sheetAt_22 B_X7_sheetAt_23
  have e1 : aL (mkX q I) (some 43) 9 = some (nI 4) := by
    unfold aL
    rw [X_o43]
    rfl
  by_cases h0 : x < 0
  · rw [if_pos h0]
  · have h4 : nI 4 ≤ x := by
      rw [le_I, nI_toInt (by decide)]
      rw [lt_I] at h0
      have e0 : (0 : Int32).toInt = 0 := rfl
      rw [e0] at h0
      by_cases h : x.toInt < 4
      · exact absurd (show inb x 4 = true from inb_iff.mpr ⟨by omega, by omega⟩) (by rw [hx]; decide)
      · omega
    rw [if_neg h0, X_r8, bind_some', e1, bind_some', if_pos h4]
theorem S_sh {s : Nat} (hs : s < 4) : shL.getD (45 + 2 * s) (0, 0) = (3, 0) ∧ shL.getD (46 + 2 * s) (0, 0) = (7, 40) := by
  rcases (show s = 0 ∨ s = 1 ∨ s = 2 ∨ s = 3 by omega) with rfl | rfl | rfl | rfl <;> exact ⟨rfl, rfl⟩
theorem S_ob {q : Xp} {I : Nat → Nat → Int32} {s : Nat} (hs : s < 4) : ob (mkX q I) 3 (some (45 + 2 * s)) = some (45 + 2 * s) := X_ob (by omega) (by rw [(S_sh hs).1])
theorem S_gI {q : Xp} {I : Nat → Nat → Int32} {s j : Nat} (hs : s < 4) : gI (mkX q I) (some (45 + 2 * s)) 3 j = some (I (45 + 2 * s) j) := X_gI (by omega) (by rw [(S_sh hs).1])
theorem S_pI {q : Xp} {I : Nat → Nat → Int32} {s j : Nat} {x : Int32} (hs : s < 4) : pI (mkX q I) (some (45 + 2 * s)) 3 j x = some (mkX q (up2 I (45 + 2 * s) j x)) := X_pI (by omega) (by rw [(S_sh hs).1])
theorem S_r2 {q : Xp} {I : Nat → Nat → Int32} {s : Nat} (hs : s < 4) : gR (mkX q I) (some (45 + 2 * s)) 3 2 = some (some (46 + 2 * s)) := (X_gR (by omega) (by rw [(S_sh hs).1])).trans (by rcases (show s = 0 ∨ s = 1 ∨ s = 2 ∨ s = 3 by omega) with rfl | rfl | rfl | rfl <;> rfl)
theorem S_at {q : Xp} {I : Nat → Nat → Int32} {s i : Nat} (hs : s < 4) (hi : i < 40) : F_X7_at (mkX q I) (some (46 + 2 * s)) (nI i) = some (I (46 + 2 * s) i, mkX q I) := X_at 40 (by omega) (S_sh hs).2 hi (by decide)
theorem S_st {q : Xp} {I : Nat → Nat → Int32} {s i : Nat} {x : Int32} (hs : s < 4) (hi : i < 40) : F_X7_store (mkX q I) (some (46 + 2 * s)) (nI i) x = some (mkX q (up2 I (46 + 2 * s) i x)) := X_st 40 (by omega) (S_sh hs).2 hi (by decide)
theorem x_isMissing {q : Xp} {I : Nat → Nat → Int32} {s : Nat} (hs : s < 4) : F_X4_isMissing (mkX q I) (45 + 2 * s) = some (bI (decide (I (45 + 2 * s) 0 = -1)), mkX q I) := by
  unfold F_X4_isMissing B_X4_isMissing_13
  rw [S_gI hs, bind_some']
  by_cases h : I (45 + 2 * s) 0 = -1
  · rw [if_pos h, decide_eq_true h]; rfl
  · rw [if_neg h, decide_eq_false h]; rfl
theorem x_holds1 {q : Xp} {I : Nat → Nat → Int32} {s z : Nat} {x : Int32} (hs : s < 4) (hz : z ≤ 40) (h1 : I (45 + 2 * s) 1 = nI z) : F_X4_holds (mkX q I) (45 + 2 * s) x 1 = some (bI (inb x z), mkX q I) := by
  unfold F_X4_holds B_X4_holds_22 B_X4_holds_23
  have e0 : (0 : Int32).toInt = 0 := rfl
  have e1 : (1 : Int32).toInt = 1 := rfl
  have ez : (nI z).toInt = (z : Int) := nI_toInt (by omega)
  have hb := toInt_bd x
  by_cases h0 : x < 0
  · have : inb x z = false := by
      cases h : inb x z with
      | false => rfl
      | true =>
        rw [inb_iff] at h
        rw [lt_I, e0] at h0
        omega
    rw [if_pos h0, this]
    rfl
  · rw [if_neg h0, if_neg (by decide), S_gI hs, bind_some', h1]
    rw [lt_I, e0] at h0
    have hd : (nI z - x).toInt = (z : Int) - x.toInt := by rw [subI (by omega) (by omega), ez]
    by_cases hc : nI z - x < 1
    · have : inb x z = false := by
        cases h : inb x z with
        | false => rfl
        | true =>
          rw [inb_iff] at h
          rw [lt_I, hd, e1] at hc
          omega
      rw [if_pos hc, this]
      rfl
    · have : inb x z = true := by
        rw [inb_iff]
        rw [lt_I, hd, e1] at hc
        omega
      rw [if_neg hc, this]
      rfl
def wri (sort x : Int32) : Int32 := if sort = 0 then x.toInt8.toInt32 else if sort = 1 then x.toInt16.toInt32 else x
theorem x_write {q : Xp} {I : Nat → Nat → Int32} {s i : Nat} {x : Int32} (hs : s < 4) (hi : i < 40) : F_X4_write (mkX q I) (45 + 2 * s) (nI i) x = some (mkX q (up2 I (46 + 2 * s) i (wri (I (45 + 2 * s) 0) x))) := by
  unfold F_X4_write B_X4_write_31 wri
  rw [S_r2 hs, bind_some', S_gI hs, bind_some', bind_some']
  by_cases h0 : I (45 + 2 * s) 0 = 0
  · rw [if_pos h0, if_pos h0, S_st hs hi, bind_some']
  · rw [if_neg h0, if_neg h0]
    by_cases h1 : I (45 + 2 * s) 0 = 1
    · rw [if_pos h1, if_pos h1, S_st hs hi, bind_some']
    · rw [if_neg h1, if_neg h1, S_st hs hi, bind_some']
theorem SH_cell {I J : Nat → Nat → Int32} {s i : Nat} {x : Int32} (h : SH I J) (hs : s < 4) (hi : i < 40) : SH (up2 I (46 + 2 * s) i x) (up2 J 14 (40 * s + i) x) := by
  intro t ht
  obtain ⟨y1, y2, y3, y4, y5⟩ := h t ht
  rw [up2_o (by omega), up2_o (by omega), up2_o (by omega), up2_o (by omega)]
  refine ⟨y1, y2, y3, y4, fun k hk => ?_⟩
  by_cases hts : t = s
  · subst hts
    rw [up2_row, up2_row, y5 k hk]
    by_cases hki : k = i
    · rw [if_pos hki, if_pos (by omega)]
    · rw [if_neg hki, if_neg (by omega)]
  · rw [up2_o (by omega), up2_j (by omega)]
    exact y5 k hk
theorem al_cell {fu : Nat} : Al_cell Rel fu := by
  rintro SX SM ⟨q, I, J, v, rfl, rfl, h⟩ a1 a2 a3
  unfold F_X7_cell F_X8_cell
  have e3 : F_X8_in (mkM J) a1 0 3 = some (bI (inb a1 4), mkM J) := m_in0 (by decide)
  rw [X_o0, bind_some', e3, b2_some]
  cases hb : inb a1 4 with
  | false => exact ⟨-2, _, _, by rw [x_sheetNo hb, b2_some, if_pos rfl], by rw [if_pos bIf], q, I, J, v, rfl, rfl, h⟩
  | true =>
    obtain ⟨s, hs, rfl⟩ := inb_of hb (by decide)
    obtain ⟨y1, y2, ⟨z, hz, ez⟩, y4, y5⟩ := h.2.2.2.2.2.2.2.1 s hs
    rw [x_sheetAt hs, b2_some, if_neg (by simp), S_ob hs, bind_some', x_isMissing hs, b2_some, y1, if_neg bIt, M_r18, bind_some', M_g12 hs, bind_some']
    by_cases hm : J 12 s = -1
    · exact ⟨-11, _, _, by rw [decide_eq_true hm, if_neg bIt], by rw [if_pos hm], q, I, J, v, rfl, rfl, h⟩
    · rw [decide_eq_false hm, if_pos bIf, S_ob hs, bind_some', x_holds1 hs hz (y2.trans ez), b2_some, if_neg hm, M_r19, bind_some', M_g13 hs, bind_some', ez, m_in, in0 (by omega), b2_some]
      cases hb2 : inb a2 z with
      | false => exact ⟨-12, _, _, by rw [if_pos bIf], by rw [if_pos bIf], q, I, J, v, rfl, rfl, h⟩
      | true =>
        obtain ⟨i, hi, rfl⟩ := inb_of hb2 (by omega)
        refine ⟨1, _, _, by rw [if_neg bIt, S_ob hs, bind_some', x_write hs (by omega), bind_some', y1], ?_, q, _, up2 J 14 (40 * s + i) (wri (J 12 s) a3), v, rfl, rfl, Rv_sh h (SH_cell h.2.2.2.2.2.2.2.1 hs (by omega)) (fun a ha => funext fun b => up2_o (by omega)) (fun a ha => funext fun b => up2_o (by omega))⟩
        unfold B_X8_cell_84 wri
        rw [if_neg bIt, M_r20, bind_some', M_r18, bind_some', M_g12 hs, bind_some', lit 40, nI_mul, nI_add]
        by_cases h0 : J 12 s = 0
        · rw [if_pos h0, if_pos h0, M_p14 (by omega), bind_some']
        · rw [if_neg h0, if_neg h0, bind_some', M_g12 hs, bind_some']
          by_cases h1 : J 12 s = 1
          · rw [if_pos h1, if_pos h1, M_p14 (by omega), bind_some']
          · rw [if_neg h1, if_neg h1, M_p14 (by omega), bind_some']
