/-! film -/
def EF (s a : Nat) : Prop := E8 1 a ∨ a = 46 + 2 * s
theorem RX_F {q : Xp} {I I' : Nat → Nat → Int32} {v : Ev} {s : Nat} (h : RX q I 1 v) (hs : smx (EF s) I I') (hs4 : s < 4) : RX q I' 1 v :=
  RX_smx h hs (fun a ha => by
    rcases ha with (h | h) | h
    · exact Or.inl h
    · exact Or.inr ⟨by omega, fun i hi => by omega⟩
    · exact Or.inr ⟨by omega, fun i hi => by omega⟩) eE1
theorem EF_n {s a : Nat} (h1 : a < 9 ∨ (45 ≤ a ∧ a ≤ 52)) (h2 : a ≠ 46 + 2 * s) : ¬ EF s a := fun q => by
  rcases q with (⟨q1, q2⟩ | q) | q <;> omega
theorem short_n : ∀ b, b < 581 → (nI b).toInt16.toInt32 = nI b := by decide +kernel
theorem x_filmL {q : Xp} {I : Nat → Nat → Int32} {v : Ev} {s fu : Nat} (hR : RX q I 1 v) (hok : okEv v) (hs : s < 4) (h1 : I (45 + 2 * s) 0 = 1) (hc : ∀ i, i < 40 → I (46 + 2 * s) i = 0) (hfu : 200 < fu) :
    ∃ I', (smx (EF s) I I' ∧ ∀ i, i < 40 → I' (46 + 2 * s) i = if i < vP v then sBeats v i else 0) ∧ B_X7_film_27 fu 0 (some (45 + 2 * s)) fu (mkX q I) (nI 0) = some (nI (vP v), mkX q I') := by
  obtain ⟨hP, hP6⟩ := hR.1
  refine loop0z (mkX q) (B_X7_film_27 fu 0 (some (45 + 2 * s))) (fun k => L_X7_film_27 k fu 0 (some (45 + 2 * s))) (fun n => rfl) (vP v) (fun j I' => smx (EF s) I I' ∧ ∀ i, i < 40 → I' (46 + 2 * s) i = if i < j then sBeats v i else 0) (fun I' => some (nI (vP v), mkX q I')) (by
    intro k I' hi
    unfold L_X7_film_27
    rw [X_r0, bind_some', E_gI eE1, bind_some', hi.1 1 (EF_n (by omega) (by omega)), hP, if_pos (nI_le (Nat.le_refl _) (by omega)), bind_some', E_gI eE1, bind_some', hi.1 1 (EF_n (by omega) (by omega)), hP]) (by
    intro k I' j hj hi
    obtain ⟨g1, g2⟩ := hi
    obtain ⟨I1, s1, x1⟩ := x_beats (fu := fu) eE1 (RX_F hR g1 hs) hok hj hfu
    obtain ⟨b, hb, eb⟩ := sBeats_n hok hj hR.2.1.2
    have f45 : I1 (45 + 2 * s) 0 = 1 := by rw [s1 _ (E8_sh eE1 (by omega) (by omega)), g1 _ (EF_n (by omega) (by omega))]; exact h1
    refine ⟨up2 I1 (46 + 2 * s) j (sBeats v j), ⟨smx_tr (smx_tr g1 (smx_wk s1 (fun a ha => Or.inl ha))) (smx_up (Or.inr rfl)), fun i hi => ?_⟩, ?_⟩
    · rw [up2_row, s1 _ (E8_sh eE1 (by omega) (by omega)), g2 i hi]
      by_cases hij : i = j
      · subst hij
        rw [if_pos rfl, if_pos (by omega)]
      · rw [if_neg hij]
        by_cases h : i < j
        · rw [if_pos h, if_pos (by omega)]
        · rw [if_neg h, if_neg (by omega)]
    · have ew : wri (I1 (45 + 2 * s) 0) (sBeats v j) = sBeats v j := by
        unfold wri
        rw [f45, if_neg (by decide), if_pos rfl, eb, short_n b (by omega)]
      unfold L_X7_film_27
      rw [X_r0, bind_some', E_gI eE1, bind_some', g1 1 (EF_n (by omega) (by omega)), hP, if_neg (nI_ge hj (by omega)), bind_some', E_ob eE1, bind_some', x1, b2_some, S_ob hs, bind_some', x_write hs (by omega), bind_some', ew, nI_1]) I ⟨smx_rf, fun i hi => by rw [if_neg (by omega)]; exact hc i hi⟩ fu (by omega)
theorem m_filmL {J : Nat → Nat → Int32} {v : Ev} {s fu : Nat} (hM : RM J v) (hs : s < 4) (hfu : 200 < fu) :
    ∃ J', (sme [14, 18, 19] J J' ∧ ∀ i, J' 14 i = if 40 * s ≤ i ∧ i < 40 * s + 40 then (if i - 40 * s < vP v then sBeats v (i - 40 * s) else 0) else J 14 i) ∧ B_X8_film_31 fu 0 (nI s) fu (mkM J) (nI 0) = some (nI (vP v), mkM J') := by
  obtain ⟨hP, hP6⟩ := hM.1
  have step : ∀ (J' : Nat → Nat → Int32) (j : Nat) (x : Int32), j < 40 → x = (if j < vP v then sBeats v j else 0) → (∀ i, J' 14 i = if 40 * s ≤ i ∧ i < 40 * s + j then (if i - 40 * s < vP v then sBeats v (i - 40 * s) else 0) else J 14 i) → ∀ i, up2 J' 14 (40 * s + j) x 14 i = if 40 * s ≤ i ∧ i < 40 * s + (j + 1) then (if i - 40 * s < vP v then sBeats v (i - 40 * s) else 0) else J 14 i := by
    intro J' j x hj hx h2 i
    rw [up2_row, h2 i]
    by_cases hij : i = 40 * s + j
    · rw [if_pos hij, if_pos (show 40 * s ≤ i ∧ i < 40 * s + (j + 1) by omega), show i - 40 * s = j by omega]
      exact hx
    · rw [if_neg hij]
      by_cases hc : 40 * s ≤ i ∧ i < 40 * s + j
      · rw [if_pos hc, if_pos (show 40 * s ≤ i ∧ i < 40 * s + (j + 1) by omega)]
      · rw [if_neg hc, if_neg (show ¬ (40 * s ≤ i ∧ i < 40 * s + (j + 1)) by omega)]
  refine loop0z mkM (B_X8_film_31 fu 0 (nI s)) (fun k => L_X8_film_31 k fu 0 (nI s)) (fun n => rfl) 40 (fun j J' => sme [14, 18, 19] J J' ∧ ∀ i, J' 14 i = if 40 * s ≤ i ∧ i < 40 * s + j then (if i - 40 * s < vP v then sBeats v (i - 40 * s) else 0) else J 14 i) (fun J' => some (nI (vP v), mkM J')) (by
    intro k J' hi
    unfold L_X8_film_31
    rw [if_pos (show (40 : Int32) ≤ nI 40 by decide), M_gI, bind_some', hi.1 0 (by decide), hP]) (by
    intro k J' j hj hi
    obtain ⟨h1, h2⟩ := hi
    unfold L_X8_film_31 B_X8_film_69
    rw [if_neg (show ¬ (40 : Int32) ≤ nI j by rw [lit 40]; exact nI_ge hj (by decide)), M_r20, bind_some', M_gI, bind_some', h1 0 (by decide), hP, lit 40, nI_mul, nI_add]
    by_cases hc : j < vP v
    · obtain ⟨J1, t1, m1⟩ := m_beatsOf (fu := fu) (RM_sme hM h1 (by decide)) hc hfu
      have ew : F_X8_within (mkM J') (nI j) 0 5 = some (nI j, mkM J') := by
        rw [m_within]
        unfold clamp
        rw [if_pos (by rw [lit 0]; exact nI_le (by omega) (by omega)), if_pos (by rw [lit 5]; exact nI_le (by omega) (by omega))]
      refine ⟨up2 J1 14 (40 * s + j) (sBeats v j), ⟨sme_tr (sme_tr h1 (sme_wk t1 (by decide))) (sme_up (by decide)), step J1 j _ hj (by rw [if_pos hc]) (fun i => by rw [t1 14 (by decide)]; exact h2 i)⟩, ?_⟩
      rw [if_neg (nI_ge hc (by omega)), ew, b2_some, M_ob, bind_some', m1, b2_some, M_p14 (by omega), bind_some', nI_1]
    · refine ⟨up2 J' 14 (40 * s + j) 0, ⟨sme_tr h1 (sme_up (by decide)), step J' j _ hj (by rw [if_neg hc]) h2⟩, ?_⟩
      rw [if_pos (nI_le (by omega) (by omega)), M_p14 (by omega), bind_some', nI_1]) J ⟨sme_rf, fun i => by rw [if_neg (by omega)]⟩ fu (by omega)
theorem al_film {fu : Nat} (hfu : 200 < fu) : Al_film Rel fu := by
  rintro SX SM ⟨q, I, J, v, rfl, rfl, h⟩ a1
  have hX := Rv_X h
  have hM := Rv_M h
  have hok := h.2.2.1
  have e3 : F_X8_in (mkM J) a1 0 3 = some (bI (inb a1 4), mkM J) := m_in0 (by decide)
  unfold F_X7_film F_X8_film
  rw [X_o0, bind_some', e3, b2_some]
  cases hb : inb a1 4 with
  | false => exact ⟨-2, _, _, by rw [x_sheetNo hb, b2_some, if_pos rfl], by rw [if_pos bIf], q, I, J, v, rfl, rfl, h⟩
  | true =>
    obtain ⟨s, hs, rfl⟩ := inb_of hb (by decide)
    obtain ⟨I1, ⟨s1, x1, x2, x3⟩, f1⟩ := x_lay (q := q) (I := I) (fu := fu) (a := 1) (b := nI (vP v)) hs hfu
    have hX1 : RX q I1 1 v := RX_smx hX s1 (fun a ha => Or.inr ⟨by omega, fun i hi => by omega⟩) eE1
    obtain ⟨I2, ⟨s2, x4⟩, f2⟩ := x_filmL (fu := fu) hX1 hok hs x1 x3 hfu
    have hM1 : RM (up2 (up2 J 12 s 1) 13 s (nI (vP v))) v := RM_sme hM (ex := [12, 13]) (sme_tr (sme_up (by decide)) (sme_up (by decide))) (by decide)
    obtain ⟨J2, ⟨t2, y4⟩, g2⟩ := m_filmL (fu := fu) hM1 hs hfu
    have t12 : J2 12 = up2 J 12 s 1 12 := (t2 12 (by decide)).trans (funext fun b => up2_o (by decide))
    have t13 : J2 13 = up2 J 13 s (nI (vP v)) 13 := (t2 13 (by decide)).trans (funext fun b => by rw [up2_row, up2_row, up2_o (by decide)])
    refine ⟨nI (vP v), _, _, by rw [x_sheetAt hs, b2_some, if_neg (by simp), X_r0, bind_some', E_gI eE1, bind_some', hX.1.1, S_ob hs, bind_some', f1, bind_some']; exact f2, by rw [if_neg bIt, M_r18, bind_some', M_p12 hs, bind_some', M_r19, bind_some', M_gI, bind_some', up2_o (by decide), hM.1.1, M_p13 hs, bind_some']; exact g2, q, I2, J2, v, rfl, rfl, ?_⟩
    have s12 : ∀ a, ¬ EF s a → a ≠ 45 + 2 * s → I2 a = I a := fun a h1 h2 => (s2 a h1).trans (s1 a (fun q => by
      rcases q with q | q
      · exact h2 q
      · exact h1 (Or.inr q)))
    have f45 : I2 (45 + 2 * s) = I1 (45 + 2 * s) := s2 _ (EF_n (by omega) (by omega))
    refine Rv_sh2 h (SH_lay h.2.2.2.2.2.2.2.1 hs (by rw [f45, x1, t12, up2_s]) (by rw [f45, x2, t13, up2_s]) ⟨vP v, by have := hM.1.2; omega, by rw [t13, up2_s]⟩ (by rw [t12, up2_s]; exact Or.inr (Or.inr (Or.inl rfl))) (fun i hi => by rw [x4 i hi, y4, if_pos (show 40 * s ≤ 40 * s + i ∧ 40 * s + i < 40 * s + 40 by omega), Nat.add_sub_cancel_left]) (fun t ht hts => ⟨s12 _ (EF_n (by omega) (by omega)) (by omega), s12 _ (EF_n (by omega) (by omega)) (by omega)⟩) (fun t hts => by rw [t12, up2_j hts]) (fun t hts => by rw [t13, up2_j hts]) (fun i hi => by rw [y4, if_neg hi, up2_o (by decide), up2_o (by decide)])) (fun a ha hE => s12 a (fun q => ?_) (by omega)) (fun a ha => ?_)
    · rcases q with (q | q) | q
      · exact hE (Or.inr (Or.inr (Or.inr q)))
      · exact hE (Or.inl (by omega))
      · omega
    · refine (t2 a (by simp; omega)).trans (funext fun b => ?_)
      rw [up2_o (by omega), up2_o (by omega)]
