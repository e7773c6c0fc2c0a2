/-! evenings in thought -/
def qT (q : Xp) : Xp := setL q 12 (lawR q 1)
theorem qT_1 {q : Xp} : (qT q).1 = q.1 ∧ (qT q).2.1 = q.2.1 ∧ (qT q).2.2.1 = q.2.2.1 ∧ (qT q).2.2.2.2 = q.2.2.2.2 ∧ lawR (qT q) 12 = lawR q 1 ∧ lawR (qT q) 1 = lawR q 1 ∧ qT (qT q) = qT q := ⟨rfl, rfl, rfl, rfl, rfl, rfl, rfl⟩
def isQ (q q1 : Xp) : Prop := q1 = q ∨ q1 = qT q
theorem isQ_1 {q q1 : Xp} (h : isQ q q1) : q1.1 = q.1 ∧ q1.2.1 = q.2.1 ∧ q1.2.2.1 = q.2.2.1 ∧ q1.2.2.2.2 = q.2.2.2.2 ∧ lawR q1 1 = lawR q 1 ∧ setL q1 12 (lawR q1 1) = qT q := by
  rcases h with rfl | rfl <;> exact ⟨rfl, rfl, rfl, rfl, rfl, rfl⟩
def mkXs (st : Xp × (Nat → Nat → Int32)) : Hp := mkX st.1 st.2
theorem RX_of {q q' : Xp} {I I' : Nat → Nat → Int32} {e e0 : Nat} {v v' : Ev} (hX : RX q I e0 v) (hE : EX I' e v') (hc : vCode v' = vCode v ∧ vBnd v' = vBnd v) (hq : q'.1 = q.1 ∧ q'.2.1 = q.2.1 ∧ lawR q' e = lawR q e0) (fl : ∀ a, 53 ≤ a → ¬ a % 4 = 0 → I' a = I a) : RX q' I' e v' := by
  obtain ⟨-, -, -, -, -, ⟨t, t1, t2, t3, t4, t5⟩, ho⟩ := hX
  refine ⟨hE.1, hE.2.1, hE.2.2.1, hE.2.2.2.1, hE.2.2.2.2, ⟨t, by rw [hq.1]; exact t1, by rw [hq.2.2]; exact t2, by rw [hq.2.1, hc.2]; exact t3, fun i hi => ?_, fun i hi => ?_⟩, ?_⟩
  · rw [fl _ (by omega) (by omega), hc.2]
    exact t4 i hi
  · rw [hc.2] at hi
    rw [fl _ (by omega) (by omega), hc.1]
    exact t5 i hi
  · unfold okLaw at ho ⊢
    rw [hc.1, hc.2]
    exact ho
theorem RM_of {J J' : Nat → Nat → Int32} {v v' : Ev} (hM : RM J v) (hE : EM J' v') (hc : vCode v' = vCode v ∧ vBnd v' = vBnd v) (j14 : J' 0 14 = J 0 14) (j9 : J' 9 = J 9) (j8 : J' 8 = J 8) : RM J' v' := by
  obtain ⟨-, -, -, -, -, ⟨r, r1, r2, r3, r4⟩, ho⟩ := hM
  refine ⟨hE.1, hE.2.1, hE.2.2.1, hE.2.2.2.1, hE.2.2.2.2, ⟨r, r1, by rw [j14]; exact r2, fun i hi => ?_, fun i hi => ?_⟩, ?_⟩
  · rw [j9, hc.2]
    exact r3 i hi
  · rw [hc.2] at hi
    rw [j8, hc.1]
    exact r4 i hi
  · unfold okLaw at ho ⊢
    rw [hc.1, hc.2]
    exact ho
theorem RX_E {q : Xp} {I : Nat → Nat → Int32} {e : Nat} {v : Ev} (h : RX q I e v) : EX I e v := ⟨h.1, h.2.1, h.2.2.1, h.2.2.2.1, h.2.2.2.2.1⟩
theorem RM_E {J : Nat → Nat → Int32} {v : Ev} (h : RM J v) : EM J v := ⟨h.1, h.2.1, h.2.2.1, h.2.2.2.1, h.2.2.2.2.1⟩
theorem EC_n {a : Nat} (h : a ≤ 8 ∨ (23 ≤ a ∧ a ≤ 30) ∨ a = 34 ∨ a = 35 ∨ (45 ≤ a ∧ a ≤ 52) ∨ (53 ≤ a ∧ ¬ a % 4 = 0)) : ¬ EC a := fun q => by
  unfold EC ES at q
  omega
theorem Rv_mw {q q1 : Xp} {I I' J J' : Nat → Nat → Int32} {v : Ev} (h : Rv q I J v) (hq : isQ q q1) (hs : smx EC I I') (hm : EM J' v) (fJ : ∀ a, 7 ≤ a → a ≤ 16 → J' a = J a) (f0 : ∀ j, j = 10 ∨ j = 13 ∨ j = 14 ∨ j = 15 → J' 0 j = J 0 j) : Rv q1 I' J' v := by
  obtain ⟨q1', q2', q3', q4', -, -⟩ := isQ_1 hq
  obtain ⟨r, c1, c2, c3, c4⟩ := h.2.2.2.2.1
  refine Rv_ev h (EX_mono h.1 (fun i hi => hs _ (EC_n (by omega)))) hm h.2.2.1 h.2.2.2.1 ⟨q1', q2', q4'⟩ ⟨r, ?_, ?_, ?_, ?_⟩ (fun a ha => hs a (fun hE => ?_)) fJ (f0 10 (by omega)) (f0 13 (by omega)) (f0 15 (by omega)) (fun w hw => IMG_same hw (fJ 10 (by omega) (by omega)) (fJ 11 (by omega) (by omega)) (Nat.le_refl _) (fun _ _ => ⟨rfl, rfl⟩))
  · rw [hs 1 (EC_n (by omega))]; exact c1
  · rw [f0 14 (by omega)]; exact c2
  · rw [q3']; exact c3
  · have := LT_mono c4 (I' := I') (J' := J') (hs _ (EC_n (by omega))) (hs _ (EC_n (by omega))) (fJ 9 (by omega) (by omega)) (fJ 8 (by omega) (by omega))
    unfold LT at this ⊢
    rw [q1', q2']
    exact this
  · rcases ha with h | h
    · exact EC_n (a := a) (by omega) hE
    · exact h.2 hE
theorem x_think {q q1 : Xp} {I I1 J : Nat → Nat → Int32} {v : Ev} {fu : Nat} (h : Rv q I J v) (hq : isQ q q1) (hs : smx EC I I1) (hfu : 200 < fu) : ∃ I2, smx EC I I2 ∧ smx (ET 12) I1 I2 ∧ RX (qT q) I2 12 v ∧ F_X0_takeFrom fu (mkX q1 I1) 12 (some 1) = some (mkX (qT q) I2) := by
  obtain ⟨q1', q2', q3', q4', q5', q6'⟩ := isQ_1 hq
  have hX := Rv_X h
  obtain ⟨r, -, -, c3, c4⟩ := h.2.2.2.2.1
  have hl : ∀ K : Nat → Nat → Int32, okRb (mkX q1 K) (lawR q1 1) = true := fun K => by
    rw [q5', show lawR q 1 = some (53 + 4 * r) from c3]
    exact okR_t (by rw [q1']; exact c4.1)
  obtain ⟨I2, s2, e2, -, f2⟩ := x_takeFrom (e := 12) (s := 1) (fu := fu) eE12 eE1 (by decide) (EX_mono h.1 (fun i hi => hs _ (EC_n (by omega)))) hl hfu
  rw [q6'] at f2
  have s2' : smx EC I1 I2 := smx_wk s2 (fun a ha => by
    unfold ET at ha
    exact Or.inl (by omega))
  have s12 := smx_tr hs s2'
  exact ⟨I2, s12, s2, RX_of hX e2 ⟨rfl, rfl⟩ ⟨rfl, rfl, rfl⟩ (fun a h1 h2 => s12 a (EC_n (by omega))), f2⟩
/-! keeping and laying back -/
def MW (J J' : Nat → Nat → Int32) (v : Ev) : Prop := EM J' v ∧ (∀ a, 7 ≤ a → a ≤ 16 → J' a = J a) ∧ ∀ j, j ≠ 7 → j ≠ 36 → J' 0 j = J 0 j
theorem MW_0 {J : Nat → Nat → Int32} {v : Ev} (h : EM J v) : MW J J v := ⟨h, fun _ _ _ => rfl, fun _ _ _ => rfl⟩
theorem MW_M {J J' : Nat → Nat → Int32} {v : Ev} (hM : RM J v) (h : MW J J' v) : RM J' v := RM_of hM h.1 ⟨rfl, rfl⟩ (h.2.2 14 (by decide) (by decide)) (h.2.1 9 (by decide) (by decide)) (h.2.1 8 (by decide) (by decide))
theorem MW_s {J J' J'' : Nat → Nat → Int32} {v : Ev} {ex : List Nat} (h : MW J J' v) (hs : sme ex J' J'') (he : ∀ a ∈ ex, 17 ≤ a) : MW J J'' v := by
  have f : ∀ a, a ≤ 16 → J'' a = J' a := fun a ha => hs a (fun q => by have := he a q; omega)
  refine ⟨?_, fun a h1 h2 => (f a h2).trans (h.2.1 a h1 h2), fun j h1 h2 => by rw [f 0 (by omega)]; exact h.2.2 j h1 h2⟩
  unfold EM
  rw [f 0 (by omega), f 1 (by omega), f 2 (by omega), f 3 (by omega), f 4 (by omega), f 5 (by omega), f 6 (by omega)]
  exact h.1
theorem Rv_MW {q q1 : Xp} {I I' J J' : Nat → Nat → Int32} {v : Ev} (h : Rv q I J v) (hq : isQ q q1) (hs : smx EC I I') (hm : MW J J' v) : Rv q1 I' J' v :=
  Rv_mw h hq hs hm.1 hm.2.1 (fun j hj => hm.2.2 j (by omega) (by omega))
def KP (J J' : Nat → Nat → Int32) : Prop := (∀ a, (1 ≤ a ∧ a ≤ 3) ∨ (7 ≤ a ∧ a ≤ 16) → J' a = J a) ∧ (∀ j, j ≠ 7 → j ≠ 36 → J' 0 j = J 0 j) ∧ (∀ i, i < 10 → J' 22 i = J 4 i ∧ J' 22 (10 + i) = J 5 i ∧ J' 22 (20 + i) = J 6 i) ∧ J' 22 30 = J 0 7
theorem KP_s {J J' J'' : Nat → Nat → Int32} {ex : List Nat} (h : KP J J') (hs : sme ex J' J'') (he : ∀ a ∈ ex, a = 4 ∨ a = 5 ∨ a = 6 ∨ (17 ≤ a ∧ a ≠ 22)) : KP J J'' := by
  have f : ∀ a, ¬ (a = 4 ∨ a = 5 ∨ a = 6 ∨ (17 ≤ a ∧ a ≠ 22)) → J'' a = J' a := fun a ha => hs a (fun q => ha (he a q))
  refine ⟨fun a ha => (f a (by omega)).trans (h.1 a ha), fun j h1 h2 => by rw [f 0 (by omega)]; exact h.2.1 j h1 h2, ?_, ?_⟩
  · rw [f 22 (by omega)]; exact h.2.2.1
  · rw [f 22 (by omega)]; exact h.2.2.2
theorem m_keeps {J : Nat → Nat → Int32} {fu : Nat} (hfu : 200 < fu) : ∃ J', sme [22] J J' ∧ KP J J' ∧ F_X8_keeps fu (mkM J) 0 = some (mkM J') := by
  obtain ⟨J1, ⟨s1, r1⟩, h1⟩ := loop0z mkM (B_X8_keeps_2 fu 0) (fun k => L_X8_keeps_2 k fu 0) (fun n => rfl) 10 (fun j J' => sme [22] J J' ∧ ∀ i, i < j → J' 22 i = J 4 i ∧ J' 22 (10 + i) = J 5 i ∧ J' 22 (20 + i) = J 6 i) (fun J' => some (mkM (up2 J' 22 30 (J 0 7)))) (by
    intro k J' hi
    unfold L_X8_keeps_2
    rw [if_pos (show (10 : Int32) ≤ nI 10 by decide), M_r35, bind_some', M_gI, bind_some', lit 30, M_p22 (by decide), bind_some', hi.1 0 (by decide)]) (by
    intro k J' j hj hi
    obtain ⟨hi, hr⟩ := hi
    refine ⟨up2 (up2 (up2 J' 22 j (J 4 j)) 22 (10 + j) (J 5 j)) 22 (20 + j) (J 6 j), ⟨sme_tr (sme_tr (sme_tr hi (sme_up (by decide))) (sme_up (by decide))) (sme_up (by decide)), fun i hi' => ?_⟩, ?_⟩
    · rw [up2_row, up2_row, up2_row, up2_row, up2_row, up2_row, up2_row, up2_row, up2_row]
      by_cases hij : i = j
      · subst hij
        rw [if_neg (by omega), if_neg (by omega), if_pos rfl, if_neg (by omega), if_pos rfl, if_pos rfl]
        exact ⟨rfl, rfl, rfl⟩
      · rw [if_neg (by omega), if_neg (by omega), if_neg (by omega), if_neg (by omega), if_neg (by omega), if_neg (by omega), if_neg (by omega), if_neg (by omega), if_neg (by omega)]
        exact hr i (by omega)
    · unfold L_X8_keeps_2
      rw [if_neg (by rw [lit 10]; exact nI_ge (by omega) (by omega)), M_r35, bind_some', M_r4, bind_some', M_g4 (by omega), bind_some', M_p22 (by omega), bind_some', M_r35, bind_some', M_r5, bind_some', M_g5 (by omega), bind_some', lit 10, nI_add, M_p22 (by omega), bind_some', M_r35, bind_some', M_r6, bind_some', M_g6 (by omega), bind_some', lit 20, nI_add, M_p22 (by omega), bind_some', nI_1, up2_o (by decide), up2_o (by decide), up2_o (by decide), hi 4 (by decide), hi 5 (by decide), hi 6 (by decide)]) J ⟨sme_rf, fun i hi => by omega⟩ fu (by omega)
  have s2 : sme [22] J (up2 J1 22 30 (J 0 7)) := sme_tr s1 (sme_up (by decide))
  refine ⟨up2 J1 22 30 (J 0 7), s2, ⟨fun a ha => s2 a (by simp; omega), fun j _ _ => by rw [s2 0 (by decide)], fun i hi => ?_, up2_s⟩, h1⟩
  rw [up2_j (by omega), up2_j (by omega), up2_j (by omega)]
  exact r1 i hi
theorem m_lays {J J1 J2 : Nat → Nat → Int32} {v : Ev} {fu : Nat} (hm : MW J J1 v) (hk : KP J1 J2) (hfu : 200 < fu) : ∃ J3, MW J J3 v ∧ (∀ j, j ≠ 7 → J3 0 j = J2 0 j) ∧ F_X8_lays fu (mkM J2) 0 = some (mkM J3) := by
  obtain ⟨k1, k2, k3, k4⟩ := hk
  obtain ⟨J3, ⟨s3, r3⟩, h3⟩ := loop0z mkM (B_X8_lays_2 fu 0) (fun k => L_X8_lays_2 k fu 0) (fun n => rfl) 10 (fun j J' => sme [4, 5, 6] J2 J' ∧ ∀ i, i < j → J' 4 i = J1 4 i ∧ J' 5 i = J1 5 i ∧ J' 6 i = J1 6 i) (fun J' => some (mkM (up2 J' 0 7 (J1 0 7)))) (by
    intro k J' hi
    unfold L_X8_lays_2
    rw [if_pos (show (10 : Int32) ≤ nI 10 by decide), M_r35, bind_some', lit 30, M_g22 (by decide), bind_some', M_pI, bind_some', hi.1 22 (by decide), k4]) (by
    intro k J' j hj hi
    obtain ⟨hi, hr⟩ := hi
    obtain ⟨w1, w2, w3⟩ := k3 j hj
    refine ⟨up2 (up2 (up2 J' 4 j (J1 4 j)) 5 j (J1 5 j)) 6 j (J1 6 j), ⟨sme_tr (sme_tr (sme_tr hi (sme_up (by decide))) (sme_up (by decide))) (sme_up (by decide)), fun i hi' => ?_⟩, ?_⟩
    · rw [up2_o (by decide), up2_o (by decide), up2_row, up2_o (by decide), up2_row, up2_o (by decide), up2_row, up2_o (by decide), up2_o (by decide)]
      by_cases hij : i = j
      · subst hij
        rw [if_pos rfl, if_pos rfl, if_pos rfl]
        exact ⟨rfl, rfl, rfl⟩
      · rw [if_neg hij, if_neg hij, if_neg hij]
        exact hr i (by omega)
    · unfold L_X8_lays_2
      rw [if_neg (by rw [lit 10]; exact nI_ge (by omega) (by omega)), M_r4, bind_some', M_r35, bind_some', M_g22 (by omega), bind_some', M_p4 (by omega), bind_some', M_r5, bind_some', M_r35, bind_some', lit 10, nI_add, M_g22 (by omega), bind_some', M_p5 (by omega), bind_some', M_r6, bind_some', M_r35, bind_some', lit 20, nI_add, M_g22 (by omega), bind_some', M_p6 (by omega), bind_some', nI_1, up2_o (by decide), up2_o (by decide), up2_o (by decide), hi 22 (by decide), w1, w2, w3]) J2 ⟨sme_rf, fun i hi => by omega⟩ fu (by omega)
  obtain ⟨m1, m2, m3⟩ := hm
  have f : ∀ a, ¬ (a = 4 ∨ a = 5 ∨ a = 6) → J3 a = J2 a := fun a ha => s3 a (by simp; omega)
  have g0 : ∀ j, j ≠ 7 → up2 J3 0 7 (J1 0 7) 0 j = J2 0 j := fun j hj => by rw [up2_j hj, f 0 (by omega)]
  refine ⟨up2 J3 0 7 (J1 0 7), ⟨?_, fun a h1 h2 => ?_, fun j h1 h2 => ?_⟩, g0, h3⟩
  · obtain ⟨e1, e2, e3, e4, e5⟩ := m1
    refine ⟨⟨by rw [g0 0 (by decide), k2 0 (by decide) (by decide)]; exact e1.1, e1.2⟩, ⟨by rw [up2_s]; exact e2.1, e2.2⟩, by rw [g0 8 (by decide), k2 8 (by decide) (by decide)]; exact e3, fun p hp => ?_, fun k hk => ?_⟩
    · have o : ∀ a, a ≠ 0 → ∀ b, up2 J3 0 7 (J1 0 7) a b = J3 a b := fun a ha b => up2_o ha
      rw [o 1 (by decide), o 2 (by decide), o 3 (by decide), o 3 (by decide), f 1 (by omega), f 2 (by omega), f 3 (by omega), k1 1 (by omega), k1 2 (by omega), k1 3 (by omega)]
      exact e4 p hp
    · obtain ⟨y1, y2, y3⟩ := r3 k (by have := e2.2; omega)
      rw [up2_o (by decide), up2_o (by decide), up2_o (by decide), y1, y2, y3]
      exact e5 k hk
  · refine (funext fun b => up2_o (by omega)).trans ((f a (by omega)).trans ((k1 a (by omega)).trans (m2 a h1 h2)))
  · rw [g0 j h1, k2 j h1 h2, m3 j h1 h2]
theorem m_thoughtAll {J : Nat → Nat → Int32} {v : Ev} {fu : Nat} (hM : RM J v) (hok : okEv v) (hfu : 200 < fu) : ∃ J', sme [18, 19] J J' ∧ F_X8_thoughtAll fu (mkM J) 0 = some (sThoughtAll v, mkM J') := by
  obtain ⟨hP, hP6⟩ := RM_P hM
  refine loop1z mkM (B_X8_thoughtAll_4 fu 0) (fun k => L_X8_thoughtAll_4 k fu 0) (fun n => rfl) (vP v) (fun p a => a + sThought v p (sBeats v p)) 0 (fun _ J' => sme [18, 19] J J') (fun a J' => some (a, mkM J')) ?_ ?_ J sme_rf fu (by omega)
  · intro k J' hi
    unfold L_X8_thoughtAll_4
    rw [M_gI, bind_some', sme8 hi (by decide), hP, if_pos (nI_le (Nat.le_refl _) (by omega))]
  · intro k J' j hj hi
    obtain ⟨b, hb, eb⟩ := sBeats_n hok hj (RM_W hM).2
    obtain ⟨J1, t1, m1⟩ := m_beatsOf (fu := fu) (RM_sme hM hi (by decide)) hj hfu
    have h1 := sme_tr hi t1
    obtain ⟨J2, t2, m2⟩ := m_thoughtOf (fu := fu) (beats := sBeats v j) (RM_sme hM h1 (by decide)) hj (Or.inr (by rw [eb, lit 0]; exact nI_le (by omega) (by omega))) hfu
    refine ⟨J2, sme_tr h1 t2, ?_⟩
    unfold L_X8_thoughtAll_4
    rw [M_gI, bind_some', sme8 hi (by decide), hP, if_neg (nI_ge hj (by omega)), M_ob, bind_some', m1, b2_some, M_ob, bind_some', m2, b2_some, nI_1]
