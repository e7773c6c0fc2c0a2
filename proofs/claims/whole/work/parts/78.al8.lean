/-! the image -/
theorem m_image {J : Nat → Nat → Int32} {v : Ev} {fu : Nat} (hE : EM J v) (hfu : 200 < fu) :
    ∃ J', sme [0, 10, 11] J J' ∧ (∀ j, j ≠ 15 → J' 0 j = J 0 j) ∧ J' 0 15 = 1 ∧ J' 11 0 = J 0 0 ∧ J' 11 1 = J 0 7 ∧ J' 11 2 = J 0 8 ∧ J' 11 3 = J 0 14 ∧ (∀ i, i < 10 → J' 10 i = J 4 i ∧ J' 10 (10 + i) = J 5 i ∧ J' 10 (20 + i) = J 6 i) ∧ (∀ i, i < 12 → J' 10 (30 + i) = J 3 i) ∧ F_X8_image fu (mkM J) 0 = some (J 0 0, mkM J') := by
  obtain ⟨J1, ⟨s1, r1⟩, h1⟩ := loop0z mkM (B_X8_image_7 fu 0) (fun k => L_X8_image_7 k fu 0) (fun n => rfl) 10 (fun j J' => sme [10] (up2 J 0 15 1) J' ∧ ∀ i, i < j → J' 10 i = J 4 i ∧ J' 10 (10 + i) = J 5 i ∧ J' 10 (20 + i) = J 6 i) (fun J' => B_X8_image_63 fu 0 fu (mkM J') 0) (by
    intro k J' hi
    unfold L_X8_image_7
    rw [if_pos (show (10 : Int32) ≤ nI 10 by decide)]) (by
    intro k J' j hj hi
    obtain ⟨hi, hr⟩ := hi
    have e4 : J' 4 = J 4 := (hi 4 (by decide)).trans (funext fun b => up2_o (by decide))
    have e5 : J' 5 = J 5 := (hi 5 (by decide)).trans (funext fun b => up2_o (by decide))
    have e6 : J' 6 = J 6 := (hi 6 (by decide)).trans (funext fun b => up2_o (by decide))
    refine ⟨up2 (up2 (up2 J' 10 j (J 4 j)) 10 (10 + j) (J 5 j)) 10 (20 + j) (J 6 j), ⟨sme_tr (sme_tr (sme_tr hi (sme_up (by decide))) (sme_up (by decide))) (sme_up (by decide)), fun i hi' => ?_⟩, ?_⟩
    · rw [up2_row, up2_row, up2_row, up2_row, up2_row, up2_row, up2_row, up2_row, up2_row]
      by_cases hij : i = j
      · subst hij
        rw [if_neg (by omega), if_neg (by omega), if_pos rfl, if_neg (by omega), if_pos rfl, if_pos rfl]
        exact ⟨rfl, rfl, rfl⟩
      · rw [if_neg (by omega), if_neg (by omega), if_neg (by omega), if_neg (by omega), if_neg (by omega), if_neg (by omega), if_neg (by omega), if_neg (by omega), if_neg (by omega)]
        exact hr i (by omega)
    · unfold L_X8_image_7
      rw [if_neg (by rw [lit 10]; exact nI_ge (by omega) (by omega)), M_r16, bind_some', M_r4, bind_some', M_g4 (by omega), bind_some', M_p10 (by omega), bind_some', M_r16, bind_some', M_r5, bind_some', M_g5 (by omega), bind_some', lit 10, nI_add, M_p10 (by omega), bind_some', M_r16, bind_some', M_r6, bind_some', M_g6 (by omega), bind_some', lit 20, nI_add, M_p10 (by omega), bind_some', nI_1, up2_o (by decide), up2_o (by decide), up2_o (by decide), e4, e5, e6]) (up2 J 0 15 1) ⟨sme_rf, fun i hi => by omega⟩ fu (by omega)
  obtain ⟨J2, ⟨s2, r2, r3⟩, h2⟩ := loop0z mkM (B_X8_image_63 fu 0) (fun k => L_X8_image_63 k fu 0) (fun n => rfl) 12 (fun j J' => sme [10] (up2 J 0 15 1) J' ∧ (∀ i, i < 10 → J' 10 i = J 4 i ∧ J' 10 (10 + i) = J 5 i ∧ J' 10 (20 + i) = J 6 i) ∧ ∀ i, i < j → J' 10 (30 + i) = J 3 i) (fun J' => some (J 0 0, mkM (up2 (up2 (up2 (up2 J' 11 0 (J 0 0)) 11 1 (J 0 7)) 11 2 (J 0 8)) 11 3 (J 0 14)))) (by
    intro k J' hi
    have e0 : ∀ j, j ≠ 15 → J' 0 j = J 0 j := fun j hj => by rw [hi.1 0 (by decide), up2_j hj]
    unfold L_X8_image_63
    rw [if_pos (show (12 : Int32) ≤ nI 12 by decide), M_r17, bind_some', M_gI, bind_some', lit 0, M_p11 (by decide), bind_some', M_r17, bind_some', M_gI, bind_some', lit 1, M_p11 (by decide), bind_some', M_r17, bind_some', M_gI, bind_some', lit 2, M_p11 (by decide), bind_some', M_r17, bind_some', M_gI, bind_some', lit 3, M_p11 (by decide), bind_some', M_gI, bind_some', up2_o (by decide), up2_o (by decide), up2_o (by decide), up2_o (by decide), up2_o (by decide), up2_o (by decide), up2_o (by decide), up2_o (by decide), up2_o (by decide), up2_o (by decide), e0 0 (by decide), e0 7 (by decide), e0 8 (by decide), e0 14 (by decide)]) (by
    intro k J' j hj hi
    obtain ⟨hi, hr, hr3⟩ := hi
    have e3 : J' 3 = J 3 := (hi 3 (by decide)).trans (funext fun b => up2_o (by decide))
    refine ⟨up2 J' 10 (30 + j) (J 3 j), ⟨sme_tr hi (sme_up (by decide)), fun i hi' => ?_, fun i hi' => ?_⟩, ?_⟩
    · rw [up2_j (by omega), up2_j (by omega), up2_j (by omega)]
      exact hr i hi'
    · rw [up2_row]
      by_cases hij : i = j
      · subst hij
        rw [if_pos rfl]
      · rw [if_neg (by omega)]
        exact hr3 i (by omega)
    · unfold L_X8_image_63
      rw [if_neg (by rw [lit 12]; exact nI_ge (by omega) (by omega)), M_r16, bind_some', M_r3, bind_some', M_g3 (by omega), bind_some', lit 30, nI_add, M_p10 (by omega), bind_some', nI_1, e3]) J1 ⟨s1, r1, fun i hi => by omega⟩ fu (by omega)
  refine ⟨up2 (up2 (up2 (up2 J2 11 0 (J 0 0)) 11 1 (J 0 7)) 11 2 (J 0 8)) 11 3 (J 0 14), ?_, fun j hj => ?_, ?_, ?_, ?_, ?_, ?_, fun i hi => ?_, fun i hi => ?_, ?_⟩
  · exact sme_tr (sme_tr (sme_tr (sme_tr (sme_tr (sme_up (by decide)) (sme_wk s2 (by decide))) (sme_up (by decide))) (sme_up (by decide))) (sme_up (by decide))) (sme_up (by decide))
  · rw [up2_o (by decide), up2_o (by decide), up2_o (by decide), up2_o (by decide), s2 0 (by decide), up2_j hj]
  · rw [up2_o (by decide), up2_o (by decide), up2_o (by decide), up2_o (by decide), s2 0 (by decide), up2_s]
  · rw [up2_j (by decide), up2_j (by decide), up2_j (by decide), up2_s]
  · rw [up2_j (by decide), up2_j (by decide), up2_s]
  · rw [up2_j (by decide), up2_s]
  · rw [up2_s]
  · rw [up2_o (by decide), up2_o (by decide), up2_o (by decide), up2_o (by decide)]
    exact r2 i hi
  · rw [up2_o (by decide), up2_o (by decide), up2_o (by decide), up2_o (by decide)]
    exact r3 i hi
  · unfold F_X8_image
    rw [M_pI, bind_some']
    exact h1.trans h2
theorem al_image {fu : Nat} (hfu : 200 < fu) : Al_image Rel fu := by
  rintro SX SM ⟨q, I, J, v, rfl, rfl, h⟩
  obtain ⟨a1, a2, a3, a4, ⟨r, c1, c2, c3, c4⟩, ⟨t1, t2, t3, t4, t5⟩, ⟨n, n1, n2, n3, n4⟩, a8, ⟨i1, i2⟩, a10⟩ := h
  have hl : ∀ K : Nat → Nat → Int32, okRb (mkX q K) (lawR q 1) = true := fun K => by
    show okRb (mkX q K) q.2.2.1 = true
    rw [c3]
    exact okR_t c4.1
  obtain ⟨I1, s1, x1, x10, f1⟩ := x_takeFrom (e := 23) (s := 1) (fu := fu) eE23 eE1 (by decide) a1 hl hfu
  obtain ⟨J1, s2, j0, j15, m0, m1, m2, m3, r2, r3, f2⟩ := m_image (fu := fu) a2 hfu
  have sI : ∀ a, a < 23 ∨ 31 ≤ a → I1 a = I a := fun a ha => s1 a (fun q => by unfold ET at q; omega)
  have sJ : ∀ a, 1 ≤ a → a ≠ 10 → a ≠ 11 → J1 a = J a := fun a h1 h2 h3 => s2 a (by simp; omega)
  have lt : ∀ {r c b}, LT q I J r c b → LT (setL q 23 (lawR q 1)) (up2 I1 0 3 1) J1 r c b := fun h =>
    LT_mono (q := setL q 23 (lawR q 1)) (show LT (setL q 23 (lawR q 1)) I J _ _ _ from h) (funext fun b => by rw [up2_o (by omega), sI _ (by omega)]) (funext fun b => by rw [up2_o (by omega), sI _ (by omega)]) (sJ 9 (by decide) (by decide) (by decide)) (sJ 8 (by decide) (by decide) (by decide))
  refine ⟨J 0 0, _, _, by
    unfold F_X7_image
    rw [X_r2, bind_some', X_r0, bind_some', X_ob (t := 0) (a := 23) (by decide) rfl, bind_some', f1, bind_some', X_pI (t := 5) (a := 0) (by decide) rfl, bind_some', X_r0, bind_some', E_gI eE1, bind_some', up2_o (by decide), sI 1 (by decide), a1.1.1, a2.1.1], f2, setL q 23 (lawR q 1), up2 I1 0 3 1, J1, v, rfl, rfl, ?_⟩
  refine ⟨?_, ?_, a3, a4, ⟨r, ?_, ?_, c3, lt c4⟩, ⟨t1, t2, ?_, ?_, fun t ht => ?_⟩, ⟨n, n1, ?_, ?_, ?_⟩, ?_, ⟨?_, Or.inr ⟨?_, v, ?_, a3, a4, ?_, r, ?_, ?_, c3, lt c4⟩⟩, ?_⟩
  · exact EX_mono a1 (fun i hi => funext fun b => by rw [up2_o (by omega), sI _ (by omega)])
  · unfold EM
    rw [j0 0 (by decide), j0 7 (by decide), j0 8 (by decide), sJ 1 (by decide) (by decide) (by decide), sJ 2 (by decide) (by decide) (by decide), sJ 3 (by decide) (by decide) (by decide), sJ 4 (by decide) (by decide) (by decide), sJ 5 (by decide) (by decide) (by decide), sJ 6 (by decide) (by decide) (by decide)]
    exact a2
  · rw [up2_o (by decide), sI 1 (by decide)]; exact c1
  · rw [j0 14 (by decide)]; exact c2
  · rw [up2_j (by decide), sI 0 (by decide)]; exact t3
  · rw [j0 13 (by decide)]; exact t4
  · obtain ⟨c, b, hcb⟩ := t5 t ht
    exact ⟨c, b, lt hcb⟩
  · rw [up2_o (by decide), sI 34 (by decide)]; exact n2
  · rw [j0 10 (by decide)]; exact n3
  · intro i hi
    rw [up2_o (by decide), sI 35 (by decide), sJ 7 (by decide) (by decide) (by decide)]; exact n4 i hi
  · intro s hs4
    have o : ∀ a b, 45 ≤ a → up2 I1 0 3 1 a b = I a b := fun a b ha => by rw [up2_o (by omega), sI a (by omega)]
    obtain ⟨y1, y2, y3, y4, y5⟩ := a8 s hs4
    rw [o _ _ (by omega), o _ _ (by omega), sJ 12 (by decide) (by decide) (by decide), sJ 13 (by decide) (by decide) (by decide), sJ 14 (by decide) (by decide) (by decide)]
    exact ⟨y1, y2, y3, y4, fun i hi => by rw [o _ _ (by omega)]; exact y5 i hi⟩
  · rw [up2_s, j15]
  · exact j15
  · exact EX_mono x1 (fun i hi => funext fun b => up2_o (by omega))
  · refine ⟨Nat.le_refl _, by rw [m0]; exact a2.1.1, by rw [m1]; exact a2.2.1.1, by rw [m2]; exact a2.2.2.1, fun p hp => ⟨rfl, rfl, ?_, ?_⟩, fun k hk => ?_⟩
    · rw [r3 _ (by have := a1.1.2; omega)]; exact (a2.2.2.2.1 p hp).2.2.1
    · rw [r3 _ (by have := a1.1.2; omega)]; exact (a2.2.2.2.1 p hp).2.2.2
    · obtain ⟨y1, y2, y3⟩ := r2 k (by have := a1.2.1.2; omega)
      rw [y1, y2, y3]
      exact a2.2.2.2.2 k hk
  · rw [up2_o (by decide), x10]; exact c1
  · rw [m3]; exact c2
  · rw [sJ 16 (by decide) (by decide) (by decide)]; exact a10
