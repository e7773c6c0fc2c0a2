/-! back to the image -/
theorem m_back {J : Nat → Nat → Int32} {fu : Nat} (h15 : ¬ J 0 15 = 0) (hfu : 200 < fu) :
    ∃ J', sme [0, 3, 4, 5, 6] J J' ∧ (∀ j, j = 10 ∨ j = 13 ∨ j = 15 → J' 0 j = J 0 j) ∧ J' 0 0 = J 11 0 ∧ J' 0 7 = J 11 1 ∧ J' 0 8 = J 11 2 ∧ J' 0 14 = J 11 3 ∧ (∀ i, i < 10 → J' 4 i = J 10 i ∧ J' 5 i = J 10 (10 + i) ∧ J' 6 i = J 10 (20 + i)) ∧ (∀ i, i < 12 → J' 3 i = J 10 (30 + i)) ∧ F_X8_back fu (mkM J) 0 = some (J 11 0, mkM J') := by
  obtain ⟨J1, ⟨s1, r1⟩, h1⟩ := loop0z mkM (B_X8_back_12 fu 0) (fun k => L_X8_back_12 k fu 0) (fun n => rfl) 10 (fun j J' => sme [3, 4, 5, 6] J J' ∧ ∀ i, i < j → J' 4 i = J 10 i ∧ J' 5 i = J 10 (10 + i) ∧ J' 6 i = J 10 (20 + i)) (fun J' => B_X8_back_68 fu 0 fu (mkM J') 0) (by
    intro k J' hi
    unfold L_X8_back_12
    rw [if_pos (show (10 : Int32) ≤ nI 10 by decide)]) (by
    intro k J' j hj hi
    obtain ⟨hi, hr⟩ := hi
    have e10 : J' 10 = J 10 := hi 10 (by decide)
    refine ⟨up2 (up2 (up2 J' 4 j (J 10 j)) 5 j (J 10 (10 + j))) 6 j (J 10 (20 + j)), ⟨sme_tr (sme_tr (sme_tr hi (sme_up (by decide))) (sme_up (by decide))) (sme_up (by decide)), fun i hi' => ?_⟩, ?_⟩
    · rw [up2_o (by decide), up2_o (by decide), up2_row, up2_o (by decide), up2_row, up2_o (by decide), up2_row, up2_o (by decide), up2_o (by decide)]
      by_cases hij : i = j
      · subst hij
        rw [if_pos rfl, if_pos rfl, if_pos rfl]
        exact ⟨rfl, rfl, rfl⟩
      · rw [if_neg hij, if_neg hij, if_neg hij]
        exact hr i (by omega)
    · unfold L_X8_back_12
      rw [if_neg (by rw [lit 10]; exact nI_ge (by omega) (by omega)), M_r4, bind_some', M_r16, bind_some', M_g10 (by omega), bind_some', M_p4 (by omega), bind_some', M_r5, bind_some', M_r16, bind_some', lit 10, nI_add, M_g10 (by omega), bind_some', M_p5 (by omega), bind_some', M_r6, bind_some', M_r16, bind_some', lit 20, nI_add, M_g10 (by omega), bind_some', M_p6 (by omega), bind_some', nI_1, up2_o (by decide), up2_o (by decide), up2_o (by decide), e10]) J ⟨sme_rf, fun i hi => by omega⟩ fu (by omega)
  obtain ⟨J2, ⟨s2, r2, r3⟩, h2⟩ := loop0z mkM (B_X8_back_68 fu 0) (fun k => L_X8_back_68 k fu 0) (fun n => rfl) 12 (fun j J' => sme [3, 4, 5, 6] J J' ∧ (∀ i, i < 10 → J' 4 i = J 10 i ∧ J' 5 i = J 10 (10 + i) ∧ J' 6 i = J 10 (20 + i)) ∧ ∀ i, i < j → J' 3 i = J 10 (30 + i)) (fun J' => some (J 11 0, mkM (up2 (up2 (up2 (up2 J' 0 0 (J 11 0)) 0 7 (J 11 1)) 0 8 (J 11 2)) 0 14 (J 11 3)))) (by
    intro k J' hi
    have e11 : J' 11 = J 11 := hi.1 11 (by decide)
    have o11 : ∀ {K : Nat → Nat → Int32} {j b : Nat} {x : Int32}, up2 K 0 j x 11 b = K 11 b := up2_o (by decide)
    unfold L_X8_back_68
    rw [if_pos (show (12 : Int32) ≤ nI 12 by decide), M_r17, bind_some', lit 0, M_g11 (by decide), bind_some', M_pI, bind_some', M_r17, bind_some', lit 1, M_g11 (by decide), bind_some', M_pI, bind_some', M_r17, bind_some', lit 2, M_g11 (by decide), bind_some', M_pI, bind_some', M_r17, bind_some', lit 3, M_g11 (by decide), bind_some', M_pI, bind_some', M_gI, bind_some']
    simp only [o11, e11]
    rw [up2_j (by decide), up2_j (by decide), up2_j (by decide), up2_s]) (by
    intro k J' j hj hi
    obtain ⟨hi, hr, hr3⟩ := hi
    have e10 : J' 10 = J 10 := hi 10 (by decide)
    refine ⟨up2 J' 3 j (J 10 (30 + j)), ⟨sme_tr hi (sme_up (by decide)), fun i hi' => ?_, fun i hi' => ?_⟩, ?_⟩
    · rw [up2_o (by decide), up2_o (by decide), up2_o (by decide)]
      exact hr i hi'
    · rw [up2_row]
      by_cases hij : i = j
      · subst hij
        rw [if_pos rfl]
      · rw [if_neg hij]
        exact hr3 i (by omega)
    · unfold L_X8_back_68
      rw [if_neg (by rw [lit 12]; exact nI_ge (by omega) (by omega)), M_r3, bind_some', M_r16, bind_some', lit 30, nI_add, M_g10 (by omega), bind_some', M_p3 (by omega), bind_some', nI_1, e10]) J1 ⟨s1, r1, fun i hi => by omega⟩ fu (by omega)
  refine ⟨up2 (up2 (up2 (up2 J2 0 0 (J 11 0)) 0 7 (J 11 1)) 0 8 (J 11 2)) 0 14 (J 11 3), ?_, fun j hj => ?_, ?_, ?_, ?_, ?_, fun i hi => ?_, fun i hi => ?_, ?_⟩
  · exact sme_tr (sme_tr (sme_tr (sme_tr (sme_wk s2 (by decide)) (sme_up (by decide))) (sme_up (by decide))) (sme_up (by decide))) (sme_up (by decide))
  · rw [up2_j (by omega), up2_j (by omega), up2_j (by omega), up2_j (by omega), s2 0 (by decide)]
  · rw [up2_j (by decide), up2_j (by decide), up2_j (by decide), up2_s]
  · rw [up2_j (by decide), up2_j (by decide), up2_s]
  · rw [up2_j (by decide), up2_s]
  · rw [up2_s]
  · have o : ∀ a, a ≠ 0 → up2 (up2 (up2 (up2 J2 0 0 (J 11 0)) 0 7 (J 11 1)) 0 8 (J 11 2)) 0 14 (J 11 3) a i = J2 a i := fun a ha => by rw [up2_o ha, up2_o ha, up2_o ha, up2_o ha]
    rw [o 4 (by decide), o 5 (by decide), o 6 (by decide)]
    exact r2 i hi
  · rw [up2_o (by decide), up2_o (by decide), up2_o (by decide), up2_o (by decide)]
    exact r3 i hi
  · unfold F_X8_back
    rw [M_gI, bind_some', if_neg h15]
    exact h1.trans h2
theorem al_back {fu : Nat} (hfu : 200 < fu) : Al_back Rel fu := by
  rintro SX SM ⟨q, I, J, v, rfl, rfl, h⟩
  obtain ⟨i1, i2⟩ := h.2.2.2.2.2.2.2.2.1
  rcases i2 with h0 | ⟨h1, w, w1, w2, w3, w4, r, l1, l2, l3, l4⟩
  · exact ⟨-3, _, _, by unfold F_X7_back; rw [X_g0, bind_some', i1, if_pos h0], by unfold F_X8_back; rw [M_gI, bind_some', if_pos h0], q, I, J, v, rfl, rfl, h⟩
  · have hne : ¬ J 0 15 = 0 := by rw [h1]; decide
    have hl : ∀ K : Nat → Nat → Int32, okRb (mkX q K) (lawR q 23) = true := fun K => by
      show okRb (mkX q K) q.2.2.2.2 = true
      rw [l3]
      exact okR_t l4.1
    obtain ⟨I1, s1, x1, x10, f1⟩ := x_takeFrom (e := 1) (s := 23) (fu := fu) eE1 eE23 (by decide) w1 hl hfu
    obtain ⟨J1, s2, j0, m0, m7, m8, m14, r2, r3, f2⟩ := m_back (fu := fu) hne hfu
    obtain ⟨g1, g2, g3, g4, g5, g6⟩ := w4
    have hvP := h.1.1.2
    have sI : ∀ a, a = 0 ∨ 9 ≤ a → I1 a = I a := fun a ha => s1 a (fun q => by unfold ET at q; omega)
    have sJ : ∀ a, (1 ≤ a ∧ a ≤ 2) ∨ 7 ≤ a → J1 a = J a := fun a ha => s2 a (by simp; omega)
    refine ⟨J 11 0, _, _, by
      unfold F_X7_back
      rw [X_g0, bind_some', i1, if_neg hne, X_r0, bind_some', X_r2, bind_some', E_ob eE1, bind_some', f1, bind_some', X_r0, bind_some', E_gI eE1, bind_some', x1.1.1, g2], f2, setL q 1 (lawR q 23), I1, J1, w, rfl, rfl, ?_⟩
    refine Rv_ev (q' := setL q 1 (lawR q 23)) h x1 ⟨⟨by rw [m0, g2], w1.1.2⟩, ⟨by rw [m7, g3], w1.2.1.2⟩, by rw [m8, g4], fun p hp => ?_, fun k hk => ?_⟩ w2 w3 ⟨rfl, rfl, rfl⟩ ⟨r, by rw [x10]; exact l1, by rw [m14]; exact l2, l3, ?_⟩ (fun a ha => sI a (by omega)) (fun a h7 _ => sJ a (by omega)) (j0 10 (by omega)) (j0 13 (by omega)) (j0 15 (by omega)) (fun w' hw' => ?_)
    · have hp6 := w1.1.2
      obtain ⟨k1, k2, k3, k4⟩ := g5 p hp
      obtain ⟨y1, y2, -, -⟩ := h.2.1.2.2.2.1 p (by omega)
      rw [sJ 1 (by omega), sJ 2 (by omega), r3 _ (by omega), r3 _ (by omega)]
      exact ⟨y1.trans k1, y2.trans k2, k3, k4⟩
    · have hk10 := w1.2.1.2
      obtain ⟨y1, y2, y3⟩ := r2 k (by omega)
      rw [y1, y2, y3]
      exact g6 k hk
    · exact LT_mono (q := setL q 1 (lawR q 23)) (show LT (setL q 1 (lawR q 23)) I J _ _ _ from l4) (sI _ (by omega)) (sI _ (by omega)) (sJ 9 (by omega)) (sJ 8 (by omega))
    · obtain ⟨b1, b2, b3, b4, b5, b6⟩ := hw'
      have hw6 := w1.1.2
      have eP : vP w' = vP w := nI_inj (by omega) (by omega) (b2.symm.trans g2)
      unfold IMG
      rw [sJ 10 (by omega), sJ 11 (by omega)]
      refine ⟨by omega, b2, b3, b4, fun p hp => ?_, b6⟩
      obtain ⟨k1, k2, k3, k4⟩ := b5 p hp
      obtain ⟨y1, y2, -, -⟩ := g5 p (by omega)
      exact ⟨y1.symm.trans k1, y2.symm.trans k2, k3, k4⟩
