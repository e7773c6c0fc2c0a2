/-! the night -/
def nightOf (v : Ev) : Ev := (vP v, 0, vDay v + 1, vKind v, vMore v, vPride v, (fun p => sThought v p (sBeats v p)), vDo v, vWt v, vSw v, vCode v, vBnd v)
def EN (e a : Nat) : Prop := EL e a ∨ a = e + 4
theorem RX_setN {q : Xp} {I I' : Nat → Nat → Int32} {e : Nat} {v : Ev} {f : Nat → Int32} (h : RX q I e v) (hs : smx (EN e) I I') (hf : ∀ p, p < vP v → I' (e + 4) p = f p) (he : isE e) : RX q I' e (setN v f) := by
  have g : ∀ i, i < 8 → i ≠ 4 → I' (e + i) = I (e + i) := fun i hi h4 => hs _ (fun q => by
    rcases q with q | q
    · exact EL_lt he i hi rfl q
    · omega)
  have f0 := g 0 (by decide) (by decide)
  rw [Nat.add_zero] at f0
  obtain ⟨h1, h2, h3, h4, h5, ⟨t, t1, t2, t3, t4, t5⟩, h7⟩ := h
  have ge : ∀ a, 53 ≤ a → ¬ a % 4 = 0 → I' a = I a := fun a ha h4 => hs _ (fun q => by
    have := E_lt he
    rcases q with (⟨q1, q2⟩ | q | q | q) | q
    · exact h4 q2
    all_goals rcases he with rfl | rfl | rfl <;> omega)
  refine ⟨?_, ?_, ?_, fun p hp => ?_, ?_, ⟨t, t1, t2, t3, ?_, ?_⟩, h7⟩
  · rw [f0]; exact h1
  · rw [f0]; exact h2
  · rw [f0]; exact h3
  · rw [g 1 (by decide) (by decide), g 2 (by decide) (by decide), g 3 (by decide) (by decide)]
    obtain ⟨y1, y2, y3, y4⟩ := h4 p hp
    exact ⟨y1, y2, y3, hf p hp⟩
  · rw [g 5 (by decide) (by decide), g 6 (by decide) (by decide), g 7 (by decide) (by decide)]
    exact h5
  · rw [ge (54 + 4 * t) (by omega) (by omega)]
    exact t4
  · rw [ge (55 + 4 * t) (by omega) (by omega)]
    exact t5
theorem okEv_setN {v : Ev} {f : Nat → Int32} (h : okEv v) (hf : ∀ p, p < vP v → ∃ n, n < 1000 ∧ f p = nI n) : okEv (setN v f) :=
  ⟨fun p hp => ⟨(h.1 p hp).1, (h.1 p hp).2.1, (h.1 p hp).2.2.1, hf p hp⟩, h.2⟩
theorem x_pass {q : Xp} {I : Nat → Nat → Int32} {v : Ev} {e fu : Nat} (he : isE e) (hR : RX q I e v) (hok : okEv v) (hfu : 200 < fu) :
    ∃ I', smx (EN e) I I' ∧ (∀ p, p < vP v → I' (e + 4) p = sThought v p (sBeats v p)) ∧ F_X0_pass fu (mkX q I) e = some (mkX q (up2 (up2 I' e 5 0) e 9 (vDay v + 1))) := by
  obtain ⟨hP, hP6⟩ := hR.1
  have hEN0 : ¬ EN e e := fun q => by
    rcases q with q | q
    · exact EL_lt he 0 (by decide) rfl q
    · omega
  obtain ⟨I', ⟨hs, hn⟩, h⟩ := loop0z (mkX q) (B_X0_pass_2 fu e) (fun k => L_X0_pass_2 k fu e) (fun n => rfl) (vP v) (fun j I' => smx (EN e) I I' ∧ ∀ p, p < vP v → I' (e + 4) p = if p < j then sThought v p (sBeats v p) else vName v p) (fun I' => some (mkX q (up2 (up2 I' e 5 0) e 9 (vDay v + 1)))) (by
    intro k I' hi
    unfold L_X0_pass_2
    rw [E_gI he, bind_some', hi.1 e hEN0, hP, if_pos (nI_le (Nat.le_refl _) (by omega)), E_pI he, bind_some', E_gI he, bind_some', up2_j (by decide), hi.1 e hEN0, hR.2.2.1, E_pI he, bind_some']) (by
    intro k I' j hj hi
    obtain ⟨hi, hnm⟩ := hi
    have hR' := RX_setN (f := fun p => if p < j then sThought v p (sBeats v p) else vName v p) hR hi hnm he
    have hok' := okEv_setN (f := fun p => if p < j then sThought v p (sBeats v p) else vName v p) hok (fun p hp => by
      by_cases h : p < j
      · rw [if_pos h]
        obtain ⟨n, h1, h2⟩ := sThought_n (v := v) (p := p) (b := sBeats v p)
        exact ⟨n, by omega, h2⟩
      · rw [if_neg h]
        exact (hok.1 p hp).2.2.2)
    obtain ⟨I1, I2, b, hb, eb, e1, e2, s2, r2, l2⟩ := x_lb (fu := fu) he hR' hok' hj hfu
    have eb : sBeats v j = nI b := eb
    have et : sThought (setN v (fun p => if p < j then sThought v p (sBeats v p) else vName v p)) j (nI b) = sThought v j (nI b) := by
      show clamp ((if j < j then sThought v j (sBeats v j) else vName v j) - nI b - sLoss v j (nI b)) 0 999 = _
      rw [if_neg (Nat.lt_irrefl _)]
      rfl
    have hd : I' e 0 = nI (vP v) := by rw [hi e hEN0]; exact hP
    refine ⟨up2 I2 (e + 4) j (sThought v j (sBeats v j)), ⟨smx_tr (smx_tr hi (smx_wk s2 (fun a ha => Or.inl ha))) (smx_up (Or.inr rfl)), ?_⟩, ?_⟩
    · intro p hp
      by_cases hpj : p = j
      · subst hpj
        rw [up2_s, if_pos (by omega)]
      · rw [up2_j hpj, s2 _ (EL_lt he 4 (by decide) rfl), hnm p hp]
        by_cases h : p < j
        · rw [if_pos h, if_pos (by omega)]
        · rw [if_neg h, if_neg (by omega)]
    · unfold L_X0_pass_2
      rw [E_gI he, bind_some', hd, if_neg (nI_ge hj (by omega)), E_ob he, bind_some', e1, bind_some', E_r4 he, bind_some', E_ob he, bind_some', e2, b2_some, E_ob he, bind_some', x_thoughtAt he r2 l2 hj (by omega) hfu, b2_some, et, E_s4 he (by omega), bind_some', nI_1, eb]) I ⟨smx_rf, fun p hp => by rw [if_neg (by omega)]; exact (hR.2.2.2.1 p hp).2.2.2⟩ fu (by omega)
  refine ⟨I', hs, fun p hp => ?_, h⟩
  rw [hn p hp, if_pos hp]
theorem m_night1 {J : Nat → Nat → Int32} {v : Ev} {fu : Nat} {x1 : Int32} (hM : RM J v) (hok : okEv v) (hfu : 200 < fu) : ∃ J', (sme [18, 19, 20] J J' ∧ ∀ p, p < vP v → J' 20 p = sThought v p (sBeats v p)) ∧ B_X8_night_20 fu 0 x1 fu (mkM J) (nI 0) = B_X8_night_52 fu 0 x1 fu (mkM J') 0 := by
  obtain ⟨hP, hP6⟩ := RM_P hM
  refine loop0z mkM (B_X8_night_20 fu 0 x1) (fun k => L_X8_night_20 k fu 0 x1) (fun n => rfl) (vP v) (fun j J' => sme [18, 19, 20] J J' ∧ ∀ p, p < j → J' 20 p = sThought v p (sBeats v p)) (fun J' => B_X8_night_52 fu 0 x1 fu (mkM J') 0) (by
    intro k J' hi
    unfold L_X8_night_20
    rw [M_gI, bind_some', hi.1 0 (by decide), hP, if_pos (nI_le (Nat.le_refl _) (by omega))]) (by
    intro k J' j hj hi
    obtain ⟨hi, hn⟩ := hi
    have hM' := RM_sme hM hi (by decide)
    obtain ⟨J1, t1, m1⟩ := m_beatsOf (fu := fu) hM' hj hfu
    obtain ⟨b, hb, eb⟩ := sBeats_n hok hj (RM_W hM).2
    obtain ⟨J2, t2, m2⟩ := m_thoughtOf (fu := fu) (beats := nI b) (RM_sme hM' t1 (by decide)) hj (Or.inr (by rw [lit 0]; exact nI_le (by omega) (by omega))) hfu
    have hs12 := sme_tr t1 t2
    refine ⟨up2 J2 20 j (sThought v j (nI b)), ⟨sme_tr (sme_tr hi (sme_wk hs12 (by decide))) (sme_up (by decide)), ?_⟩, ?_⟩
    · intro p hp
      by_cases hpj : p = j
      · subst hpj
        rw [up2_s, eb]
      · rw [up2_j hpj, hs12 20 (by decide)]
        exact hn p (by omega)
    · unfold L_X8_night_20
      rw [M_gI, bind_some', hi 0 (by decide), hP, if_neg (nI_ge hj (by omega)), M_r33, bind_some', M_ob, bind_some', m1, b2_some, M_ob, bind_some', eb, m2, b2_some, M_p20 (by omega), bind_some', nI_1]) J ⟨sme_rf, fun p hp => by omega⟩ fu (by omega)
theorem m_night2 {J : Nat → Nat → Int32} {v : Ev} {fu : Nat} {x1 : Int32} (hM : RM J v) (hth : ∀ p, p < vP v → J 20 p = sThought v p (sBeats v p)) (hfu : 200 < fu) : ∃ J', (sme [3] J J' ∧ ∀ p, p < vP v → J' 3 (2 * p) = vPride v p ∧ J' 3 (2 * p + 1) = sThought v p (sBeats v p)) ∧ B_X8_night_52 fu 0 x1 fu (mkM J) (nI 0) = some (x1, mkM (up2 (up2 J' 0 7 0) 0 8 (vDay v + 1))) := by
  obtain ⟨hP, hP6⟩ := RM_P hM
  obtain ⟨J', ⟨hs, hn⟩, h⟩ := loop0z mkM (B_X8_night_52 fu 0 x1) (fun k => L_X8_night_52 k fu 0 x1) (fun n => rfl) (vP v) (fun j J' => sme [3] J J' ∧ ∀ p, p < vP v → J' 3 (2 * p) = vPride v p ∧ J' 3 (2 * p + 1) = if p < j then sThought v p (sBeats v p) else vName v p) (fun J' => some (x1, mkM (up2 (up2 J' 0 7 0) 0 8 (vDay v + 1)))) (by
    intro k J' hi
    unfold L_X8_night_52
    rw [M_gI, bind_some', hi.1 0 (by decide), hP, if_pos (nI_le (Nat.le_refl _) (by omega)), M_pI, bind_some', M_gI, bind_some', up2_j (by decide), hi.1 0 (by decide), RM_day hM, M_pI, bind_some']) (by
    intro k J' j hj hi
    obtain ⟨hi, hn⟩ := hi
    refine ⟨up2 J' 3 (2 * j + 1) (sThought v j (sBeats v j)), ⟨sme_tr hi (sme_up (by decide)), ?_⟩, ?_⟩
    · intro p hp
      obtain ⟨h1, h2⟩ := hn p hp
      rw [up2_j (by omega)]
      refine ⟨h1, ?_⟩
      by_cases hpj : p = j
      · subst hpj
        rw [up2_s, if_pos (by omega)]
      · rw [up2_j (by omega), h2]
        by_cases h : p < j
        · rw [if_pos h, if_pos (by omega)]
        · rw [if_neg h, if_neg (by omega)]
    · unfold L_X8_night_52
      rw [M_gI, bind_some', hi 0 (by decide), hP, if_neg (nI_ge hj (by omega)), M_r3, bind_some', M_r33, bind_some', M_g20 (by omega), bind_some', hi 20 (by decide), hth j hj, lit 2, nI_mul, nI_1, M_p3 (by omega), bind_some', nI_1]) J ⟨sme_rf, fun p hp => by rw [if_neg (by omega)]; exact ⟨(RM_p hM hp).2.2.1, (RM_p hM hp).2.2.2⟩⟩ fu (by omega)
  refine ⟨J', ⟨hs, fun p hp => ?_⟩, h⟩
  have := hn p hp
  rw [if_pos hp] at this
  exact this
theorem al_night {fu : Nat} (hfu : 200 < fu) : Al_night Rel fu := by
  rintro SX SM ⟨q, I, J, v, rfl, rfl, h⟩
  have hX := Rv_X h
  have hM := Rv_M h
  have hok := h.2.2.1
  obtain ⟨d, hd, ed⟩ := h.2.2.2.1
  unfold F_X7_night F_X8_night
  rw [X_r0, bind_some', E_gI eE1, bind_some', h.1.2.2.1, M_gI, bind_some', h.2.1.2.2.1, ed, lit 999, bind_some', eq_iff_nI (by omega) (by decide)]
  by_cases h9 : d = 999
  · exact ⟨-3, _, _, by rw [if_neg (nI_nlt (by omega) (by omega))], by rw [if_pos h9], q, I, J, v, rfl, rfl, h⟩
  · rw [if_pos (nI_lt (by omega) (by decide)), if_neg h9]
    obtain ⟨I1, s1, x1⟩ := x_beatsOfAll (fu := fu) eE1 hX hok hfu
    obtain ⟨I2, s2, n2, x2⟩ := x_pass (fu := fu) eE1 (RX_8 hX s1 eE1) hok hfu
    obtain ⟨J1, t1, m1⟩ := m_beatsAll (fu := fu) hM hfu
    have hM1 := RM_sme hM t1 (by decide)
    obtain ⟨J2, ⟨t2, n3⟩, m2⟩ := m_night1 (fu := fu) (x1 := sAll v) hM1 hok hfu
    have hM2 := RM_sme hM1 t2 (by decide)
    obtain ⟨J3, ⟨t3, n4⟩, m3⟩ := m_night2 (fu := fu) (x1 := sAll v) hM2 n3 hfu
    have sX : smx (EN 1) I I2 := smx_tr (smx_wk s1 (fun a ha => Or.inl (by
      rcases ha with h | h
      · exact Or.inl h
      · exact Or.inr (Or.inl h)))) s2
    have sM : ∀ a, a ≤ 17 → a ≠ 3 → J3 a = J a := fun a ha h3 => (t3 a (by simp; omega)).trans ((t2 a (by simp; omega)).trans (t1 a (by simp; omega)))
    have gX : ∀ a, ¬ EN 1 a → I2 a = I a := sX
    refine ⟨sAll v, _, _, by rw [E_ob eE1, bind_some', x1, b2_some, X_r0, bind_some', E_ob eE1, bind_some', x2, bind_some'], by rw [M_ob, bind_some', m1, b2_some]; exact m2.trans m3, q, _, _, nightOf v, rfl, rfl, ?_⟩
    have n1 : ∀ i, i < 9 → i ≠ 5 → i ≠ 0 → I2 i = I i := fun i hi h5 h0 => gX i (fun q => by
      rcases q with (⟨q1, q2⟩ | q | q | q) | q <;> omega)
    refine Rv_ev (v' := nightOf v) h ⟨⟨?_, h.1.1.2⟩, ⟨?_, by show 0 ≤ 10; omega⟩, up2_s, ?_, ?_⟩ ⟨⟨?_, h.2.1.1.2⟩, ⟨?_, by show 0 ≤ 10; omega⟩, up2_s, ?_, ?_⟩ ⟨?_, ?_⟩ ⟨d + 1, by omega, ?_⟩ ⟨rfl, rfl, rfl⟩ ?_ ?_ ?_ ?_ ?_ ?_ ?_
    · rw [up2_j (by decide), up2_j (by decide), n1 1 (by decide) (by decide) (by decide)]; exact h.1.1.1
    · rw [up2_j (by decide), up2_s]; rfl
    · intro p hp
      have hp : p < vP v := hp
      obtain ⟨y1, y2, y3, y4⟩ := h.1.2.2.2.1 p hp
      rw [up2_o (by decide), up2_o (by decide), up2_o (by decide), up2_o (by decide), up2_o (by decide), up2_o (by decide), up2_o (by decide), up2_o (by decide), n1 2 (by decide) (by decide) (by decide), n1 3 (by decide) (by decide) (by decide), n1 4 (by decide) (by decide) (by decide)]
      exact ⟨y1, y2, y3, n2 p hp⟩
    · intro k hk
      exact absurd hk (Nat.not_lt_zero _)
    · rw [up2_j (by decide), up2_j (by decide), sM 0 (by decide) (by decide)]; exact h.2.1.1.1
    · rw [up2_j (by decide), up2_s]; rfl
    · intro p hp
      have hp : p < vP v := hp
      obtain ⟨y1, y2, y3, y4⟩ := h.2.1.2.2.2.1 p hp
      rw [up2_o (by decide), up2_o (by decide), up2_o (by decide), up2_o (by decide), up2_o (by decide), up2_o (by decide), up2_o (by decide), up2_o (by decide), sM 1 (by decide) (by decide), sM 2 (by decide) (by decide)]
      exact ⟨y1, y2, n4 p hp⟩
    · intro k hk
      exact absurd hk (Nat.not_lt_zero _)
    · intro p hp
      obtain ⟨n, h1, h2⟩ := sThought_n (v := v) (p := p) (b := sBeats v p)
      exact ⟨(hok.1 p hp).1, (hok.1 p hp).2.1, (hok.1 p hp).2.2.1, n, by omega, h2⟩
    · intro k hk
      exact absurd hk (Nat.not_lt_zero _)
    · show vDay v + 1 = _
      rw [ed, nI_1]
    · obtain ⟨r', c1, c2, c3, c4⟩ := h.2.2.2.2.1
      refine ⟨r', ?_, ?_, c3, LT_mono c4 (funext fun b => ?_) (funext fun b => ?_) ?_ ?_⟩
      · rw [up2_j (by decide), up2_j (by decide), n1 1 (by decide) (by decide) (by decide)]; exact c1
      · rw [up2_j (by decide), up2_j (by decide), sM 0 (by decide) (by decide)]; exact c2
      · rw [up2_o (by omega), up2_o (by omega), gX _ (fun q => by rcases q with (⟨q1, q2⟩ | q | q | q) | q <;> omega)]
      · rw [up2_o (by omega), up2_o (by omega), gX _ (fun q => by rcases q with (⟨q1, q2⟩ | q | q | q) | q <;> omega)]
      · funext b; rw [up2_o (by decide), up2_o (by decide), sM 9 (by decide) (by decide)]
      · funext b; rw [up2_o (by decide), up2_o (by decide), sM 8 (by decide) (by decide)]
    · intro a ha
      funext b
      have ha1 := EC_lo ha 1 (by omega) (by omega)
      have ha5 := EC_lo ha 5 (by omega) (by omega)
      rw [up2_o ha1, up2_o ha1, gX a (fun q => by
        rcases ha with rfl | ⟨h1, h2⟩
        · rcases q with (⟨q1, q2⟩ | q | q | q) | q <;> omega
        · refine h2 ?_
          rcases q with (q | q | q | q) | q
          · exact Or.inr (Or.inr (Or.inr q))
          · exact Or.inl (by omega)
          · exact Or.inl (by omega)
          · exact Or.inl (by omega)
          · omega)]
    · intro a h7 h16
      funext b
      rw [up2_o (by omega), up2_o (by omega), sM a (by omega) (by omega)]
    · rw [up2_j (by decide), up2_j (by decide), sM 0 (by decide) (by decide)]
    · rw [up2_j (by decide), up2_j (by decide), sM 0 (by decide) (by decide)]
    · rw [up2_j (by decide), up2_j (by decide), sM 0 (by decide) (by decide)]
    · refine fun w hw => IMG_same hw (funext fun b => ?_) (funext fun b => ?_) (Nat.le_refl _) (fun p hp => ⟨rfl, rfl⟩)
      · rw [up2_o (by decide), up2_o (by decide), sM 10 (by decide) (by decide)]
      · rw [up2_o (by decide), up2_o (by decide), sM 11 (by decide) (by decide)]
