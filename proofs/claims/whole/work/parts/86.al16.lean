/-! laying a sheet -/
def shI (I I' : Nat → Nat → Int32) (a : Nat) : Nat → Int32 := if 45 ≤ a ∧ a ≤ 52 then I' a else I a
theorem shI_in {I I' : Nat → Nat → Int32} {a : Nat} (h1 : 45 ≤ a) (h2 : a ≤ 52) : shI I I' a = I' a := if_pos ⟨h1, h2⟩
theorem shI_out {I I' : Nat → Nat → Int32} {a : Nat} (h : a < 45 ∨ 53 ≤ a) : shI I I' a = I a := if_neg (by omega)
theorem Rv_sh2 {q : Xp} {I I' J J' : Nat → Nat → Int32} {v : Ev} (h : Rv q I J v) (hs : SH I' J') (fI : ∀ a, (a < 45 ∨ 53 ≤ a) → ¬ EC a → I' a = I a) (fJ : ∀ a, a ≤ 11 ∨ (15 ≤ a ∧ a ≤ 16) → J' a = J a) : Rv q I' J' v := by
  have hs1 : SH (shI I I') J' := by
    intro s hs4
    rw [shI_in (by omega) (by omega), shI_in (by omega) (by omega)]
    exact hs s hs4
  have h1 : Rv q (shI I I') J' v := Rv_sh h hs1 (fun a ha => shI_out ha) fJ
  refine Rv_mono h1 (fun a ha => ?_) sm0_rf
  by_cases hc : 45 ≤ a ∧ a ≤ 52
  · rw [shI_in hc.1 hc.2]
  · rw [shI_out (by omega)]
    exact fI a (by omega) ha
theorem S_aL {q : Xp} {I : Nat → Nat → Int32} {s : Nat} (hs : s < 4) : aL (mkX q I) (some (46 + 2 * s)) 7 = some (nI 40) := by
  unfold aL
  rw [X_ob (t := 7) (a := 46 + 2 * s) (by omega) (by rw [(S_sh hs).2]), bind_some']
  have e : (shX q (46 + 2 * s)).2 = 40 := by
    unfold shX
    rw [if_pos (by omega), (S_sh hs).2]
  show some (Int32.ofNat (shX q (46 + 2 * s)).2) = _
  rw [e]
  rfl
theorem S_aP {q : Xp} {I : Nat → Nat → Int32} {s i : Nat} {x : Int32} (hs : s < 4) (hi : i < 40) : aP (mkX q I) (some (46 + 2 * s)) (nI i) x = some (mkX q (up2 I (46 + 2 * s) i x)) := by
  unfold aP
  rw [X_ob (t := 7) (a := 46 + 2 * s) (by omega) (by rw [(S_sh hs).2]), bind_some']
  have e : (shX q (46 + 2 * s)).2 = 40 := by
    unfold shX
    rw [if_pos (by omega), (S_sh hs).2]
  show (if inb (nI i) (shX q (46 + 2 * s)).2 = true then some (uI (mkX q I) (46 + 2 * s) (nI i).toNatClampNeg x) else none) = _
  rw [e, if_pos (inb_nI hi (by decide)), nI_clamp (by omega)]
  rfl
theorem x_lay {q : Xp} {I : Nat → Nat → Int32} {s fu : Nat} {a b : Int32} (hs : s < 4) (hfu : 200 < fu) :
    ∃ I', (smx (fun a => a = 45 + 2 * s ∨ a = 46 + 2 * s) I I' ∧ I' (45 + 2 * s) 0 = a ∧ I' (45 + 2 * s) 1 = b ∧ ∀ i, i < 40 → I' (46 + 2 * s) i = 0) ∧ F_X4_lay fu (mkX q I) (45 + 2 * s) a b = some (mkX q I') := by
  have g0 : smx (fun a => a = 45 + 2 * s ∨ a = 46 + 2 * s) I (up2 (up2 I (45 + 2 * s) 0 a) (45 + 2 * s) 1 b) := smx_tr (smx_up (Or.inl rfl)) (smx_up (Or.inl rfl))
  unfold F_X4_lay
  rw [S_pI hs, bind_some', S_pI hs, bind_some']
  refine loop0z (mkX q) (B_X4_lay_12 fu (45 + 2 * s)) (fun k => L_X4_lay_12 k fu (45 + 2 * s)) (fun n => rfl) 40 (fun j I' => smx (fun a => a = 45 + 2 * s ∨ a = 46 + 2 * s) I I' ∧ I' (45 + 2 * s) 0 = a ∧ I' (45 + 2 * s) 1 = b ∧ ∀ i, i < j → I' (46 + 2 * s) i = 0) (fun I' => some (mkX q I')) (by
    intro k I' hi
    unfold L_X4_lay_12
    rw [S_r2 hs, bind_some', S_aL hs, bind_some', if_pos (nI_le (Nat.le_refl _) (by decide))]) (by
    intro k I' j hj hi
    obtain ⟨h1, h2, h3, h4⟩ := hi
    refine ⟨up2 I' (46 + 2 * s) j 0, ⟨smx_tr h1 (smx_up (Or.inr rfl)), by rw [up2_o (by omega)]; exact h2, by rw [up2_o (by omega)]; exact h3, fun i hi => ?_⟩, ?_⟩
    · rw [up2_row]
      by_cases hij : i = j
      · rw [if_pos hij]
      · rw [if_neg hij]; exact h4 i (by omega)
    · unfold L_X4_lay_12
      rw [S_r2 hs, bind_some', S_aL hs, bind_some', if_neg (nI_ge hj (by decide)), bind_some', S_aP hs hj, bind_some', nI_1]) _ ⟨g0, by rw [up2_j (by decide), up2_s], up2_s, fun i hi => by omega⟩ fu (by omega)
theorem m_layL {J : Nat → Nat → Int32} {s fu : Nat} (hs : s < 4) (hfu : 200 < fu) :
    ∃ J', (sme [14] J J' ∧ ∀ i, J' 14 i = if 40 * s ≤ i ∧ i < 40 * s + 40 then 0 else J 14 i) ∧ B_X8_sheet_70 fu 0 (nI s) fu (mkM J) (nI 0) = some (1, mkM J') := by
  refine loop0z mkM (B_X8_sheet_70 fu 0 (nI s)) (fun k => L_X8_sheet_70 k fu 0 (nI s)) (fun n => rfl) 40 (fun j J' => sme [14] J J' ∧ ∀ i, J' 14 i = if 40 * s ≤ i ∧ i < 40 * s + j then 0 else J 14 i) (fun J' => some (1, mkM J')) (by
    intro k J' hi
    unfold L_X8_sheet_70
    rw [if_pos (show (40 : Int32) ≤ nI 40 by decide)]) (by
    intro k J' j hj hi
    obtain ⟨h1, h2⟩ := hi
    refine ⟨up2 J' 14 (40 * s + j) 0, ⟨sme_tr h1 (sme_up (by decide)), fun i => ?_⟩, ?_⟩
    · rw [up2_row, h2 i]
      by_cases hij : i = 40 * s + j
      · rw [if_pos hij, if_pos ⟨by omega, by omega⟩]
      · rw [if_neg hij]
        by_cases hc : 40 * s ≤ i ∧ i < 40 * s + j
        · rw [if_pos hc, if_pos ⟨hc.1, by omega⟩]
        · rw [if_neg hc, if_neg (fun q => hc ⟨q.1, by omega⟩)]
    · unfold L_X8_sheet_70
      rw [if_neg (by rw [lit 40]; exact nI_ge hj (by decide)), M_r20, bind_some', lit 40, nI_mul, nI_add, M_p14 (by omega), bind_some', nI_1]) J ⟨sme_rf, fun i => by rw [if_neg (by omega)]⟩ fu (by omega)
theorem SH_lay {I I' J J' : Nat → Nat → Int32} {s : Nat} (h : SH I J) (hs : s < 4) (i0 : I' (45 + 2 * s) 0 = J' 12 s) (i1 : I' (45 + 2 * s) 1 = J' 13 s) (hz : ∃ z, z ≤ 40 ∧ J' 13 s = nI z) (ha : J' 12 s = -1 ∨ J' 12 s = 0 ∨ J' 12 s = 1 ∨ J' 12 s = 2) (ic : ∀ i, i < 40 → I' (46 + 2 * s) i = J' 14 (40 * s + i)) (oI : ∀ t, t < 4 → t ≠ s → I' (45 + 2 * t) = I (45 + 2 * t) ∧ I' (46 + 2 * t) = I (46 + 2 * t)) (o12 : ∀ t, t ≠ s → J' 12 t = J 12 t) (o13 : ∀ t, t ≠ s → J' 13 t = J 13 t) (o14 : ∀ i, ¬ (40 * s ≤ i ∧ i < 40 * s + 40) → J' 14 i = J 14 i) : SH I' J' := by
  intro t ht
  by_cases hts : t = s
  · subst hts
    exact ⟨i0, i1, hz, ha, ic⟩
  · obtain ⟨y1, y2, y3, y4, y5⟩ := h t ht
    rw [(oI t ht hts).1, (oI t ht hts).2, o12 t hts, o13 t hts]
    exact ⟨y1, y2, y3, y4, fun i hi => by rw [o14 _ (by omega)]; exact y5 i hi⟩
theorem al_sheet {fu : Nat} (hfu : 200 < fu) : Al_sheet Rel fu := by
  rintro SX SM ⟨q, I, J, v, rfl, rfl, h⟩ a1 a2 a3
  have no : ∃ (r : Int32) (SX1 SM1 : Hp), (some (-2, mkX q I) : Option (Int32 × Hp)) = some (r, SX1) ∧ (some (-2, mkM J) : Option (Int32 × Hp)) = some (r, SM1) ∧ Rel SX1 SM1 := ⟨-2, _, _, rfl, rfl, q, I, J, v, rfl, rfl, h⟩
  have e3 : F_X8_in (mkM J) a1 0 3 = some (bI (inb a1 4), mkM J) := m_in0 (by decide)
  unfold F_X7_sheet F_X8_sheet B_X7_sheet_17 B_X7_sheet_43 B_X8_sheet_29
  rw [X_o0, bind_some', e3, b2_some]
  cases hb : inb a1 4 with
  | false =>
    rw [x_sheetNo hb, b2_some, if_pos rfl, if_pos rfl, if_pos bIf]
    split <;> exact no
  | true =>
    obtain ⟨s, hs, rfl⟩ := inb_of hb (by decide)
    have ns : ¬ (some (45 + 2 * s) : Option Nat) = none := by simp
    rw [x_sheetAt hs, b2_some, if_neg ns, if_neg ns, if_neg bIt, m_in, b2_some]
    have lay : ∀ (n : Int32) (z : Nat), z ≤ 40 → n = nI z → (a2 = -1 ∨ a2 = 0 ∨ a2 = 1 ∨ a2 = 2) → ∃ (r : Int32) (SX1 SM1 : Hp), B_X7_sheet_71 fu 0 (mkX q I) n a2 (some (45 + 2 * s)) = some (r, SX1) ∧ B_X8_sheet_66 fu 0 (mkM (up2 J 12 s a2)) (nI s) n (nI s) (some 13) = some (r, SM1) ∧ Rel SX1 SM1 := by
      intro n z hz hn ha
      obtain ⟨I1, ⟨s1, x1, x2, x3⟩, f1⟩ := x_lay (q := q) (I := I) (fu := fu) (a := a2) (b := n) hs hfu
      obtain ⟨J1, ⟨s2, y1⟩, f2⟩ := m_layL (J := up2 (up2 J 12 s a2) 13 s n) (fu := fu) hs hfu
      have t12 : J1 12 = up2 J 12 s a2 12 := (s2 12 (by decide)).trans (funext fun b => up2_o (by decide))
      have t13 : J1 13 = up2 J 13 s n 13 := (s2 13 (by decide)).trans (funext fun b => by rw [up2_row, up2_row, up2_o (by decide)])
      refine ⟨1, _, _, by unfold B_X7_sheet_71; rw [S_ob hs, bind_some', f1, bind_some'], by unfold B_X8_sheet_66; rw [M_p13 hs, bind_some']; exact f2, q, I1, J1, v, rfl, rfl, ?_⟩
      refine Rv_sh h (SH_lay h.2.2.2.2.2.2.2.1 hs (by rw [x1, t12, up2_s]) (by rw [x2, t13, up2_s]) ⟨z, hz, by rw [t13, up2_s]; exact hn⟩ (by rw [t12, up2_s]; exact ha) (fun i hi => by rw [x3 i hi, y1, if_pos ⟨by omega, by omega⟩]) (fun t ht hts => ⟨s1 _ (by omega), s1 _ (by omega)⟩) (fun t hts => by rw [t12, up2_j hts]) (fun t hts => by rw [t13, up2_j hts]) (fun i hi => by rw [y1, if_neg hi, up2_o (by decide), up2_o (by decide)])) (fun a ha => s1 a (by omega)) (fun a ha => ?_)
      refine (s2 a (by simp; omega)).trans (funext fun b => ?_)
      rw [up2_o (by omega), up2_o (by omega)]
    by_cases hm : a2 = -1
    · rw [if_pos hm, if_neg (show ¬ (1 : Int32) = 0 by decide), decide_eq_true (show (-1 : Int32) ≤ a2 ∧ a2 ≤ 2 by rw [hm]; decide), if_neg bIt, if_pos hm]
      unfold B_X7_sheet_46 B_X7_sheet_58 B_X8_sheet_32 B_X8_sheet_44
      rw [if_neg (show ¬ (1 : Int32) = 0 by decide), if_neg (show ¬ (1 : Int32) = 0 by decide), if_pos hm, M_r18, bind_some', M_p12 hs, bind_some', M_r19, bind_some', if_pos hm]
      exact lay 0 0 (by omega) rfl (Or.inl hm)
    · have hf : F_X7_fits (mkX q I) a2 3 = some (bI (inb a2 3), mkX q I) := x_fits (by decide)
      have hd : decide ((-1 : Int32) ≤ a2 ∧ a2 ≤ 2) = inb a2 3 := by
        rw [Bool.eq_iff_iff, inb_iff, decide_eq_true_iff, le_I, le_I]
        have e1 : (-1 : Int32).toInt = -1 := rfl
        have e2 : (2 : Int32).toInt = 2 := rfl
        rw [eq_I, e1] at hm
        rw [e1, e2]
        omega
      rw [if_neg hm, if_pos rfl, hf, b2_some, hd, if_neg hm]
      cases hb2 : inb a2 3 with
      | false => rw [if_pos bIf, if_pos bIf]; exact no
      | true =>
        have ha2 : a2 = -1 ∨ a2 = 0 ∨ a2 = 1 ∨ a2 = 2 := by
          obtain ⟨k, hk, rfl⟩ := inb_of hb2 (by decide)
          rcases (show k = 0 ∨ k = 1 ∨ k = 2 by omega) with rfl | rfl | rfl
          · exact Or.inr (Or.inl rfl)
          · exact Or.inr (Or.inr (Or.inl rfl))
          · exact Or.inr (Or.inr (Or.inr rfl))
        rw [if_neg bIt, if_neg bIt]
        by_cases h4 : a3 ≤ 40
        · rw [if_pos h4, if_pos h4]
          unfold B_X7_sheet_46 B_X7_sheet_58 B_X8_sheet_32 B_X8_sheet_44
          rw [if_pos rfl, if_neg hm]
          by_cases h0 : 0 ≤ a3
          · have h4' : a3.toInt ≤ 40 := le_I.mp h4
            have h0' : 0 ≤ a3.toInt := le_I.mp h0
            rw [if_pos h0, if_pos h0, if_pos rfl, M_r18, bind_some', M_p12 hs, bind_some', M_r19, bind_some', if_neg hm]
            exact lay a3 a3.toInt.toNat (by omega) (by rw [eq_I, nI_toInt (by omega)]; omega) ha2
          · rw [if_neg h0, if_neg h0]
            exact ⟨-14, _, _, rfl, rfl, q, I, J, v, rfl, rfl, h⟩
        · rw [if_neg h4, if_neg h4]
          exact no
