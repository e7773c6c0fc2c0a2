/-! judging -/
def fou (c : Nat → Bool) : Nat → Nat → Int32
  | 0, _ => -1
  | d + 1, i => if c i then nI i else fou c d (i + 1)
theorem fou_no {c : Nat → Bool} : ∀ d i, (∀ k, i ≤ k → c k = false) → fou c d i = -1
  | 0, _, _ => rfl
  | d + 1, i, h => by
    show (if c i then nI i else fou c d (i + 1)) = -1
    rw [h i (Nat.le_refl _), if_neg (by decide)]
    exact fou_no d (i + 1) (fun k hk => h k (by omega))
theorem fou_cut {c : Nat → Bool} {z : Nat} (h : ∀ k, z ≤ k → c k = false) : ∀ d i m, i + d = z → fou c (d + m) i = fou c d i
  | 0, i, m, hi => by
    rw [fou_no _ _ (fun k hk => h k (by omega))]
    rfl
  | d + 1, i, m, hi => by
    rw [show d + 1 + m = (d + m) + 1 by omega]
    show (if c i then nI i else fou c (d + m) (i + 1)) = (if c i then nI i else fou c d (i + 1))
    rw [fou_cut h d (i + 1) m (by omega)]
theorem inb_d {i z : Nat} (hi : i < 2 ^ 31) (hz : z < 2 ^ 31) : inb (nI i) z = decide (i < z) := by
  by_cases h : i < z
  · rw [inb_nI h hz, decide_eq_true h]
  · rw [inb_no (by omega) hi, decide_eq_false h]
theorem x_agrees {q : Xp} {I : Nat → Nat → Int32} {s z i : Nat} {x : Int32} (hs : s < 4) (hz : z ≤ 40) (hi : i < 6) (h1 : I (45 + 2 * s) 1 = nI z) : F_X4_agrees (mkX q I) (45 + 2 * s) (nI i) x = some (bI (!(decide (i < z) && decide (I (46 + 2 * s) i ≠ x))), mkX q I) := by
  unfold F_X4_agrees B_X4_agrees_18 B_X4_agrees_23
  rw [S_ob hs, bind_some', x_holds1 hs hz h1, b2_some, inb_d (by omega) (by omega)]
  by_cases h : i < z
  · rw [decide_eq_true h, if_neg bIt, S_ob hs, bind_some', F_X4_read, S_r2 hs, bind_some', S_at hs (by omega), b2_some, b2_some]
    by_cases hx : I (46 + 2 * s) i = x
    · rw [if_pos hx, decide_eq_false (fun h => h hx)]
      rfl
    · rw [if_neg hx, decide_eq_true hx]
      rfl
  · rw [decide_eq_false h, if_pos bIf]
    rfl
def oth (v : Ev) (cell : Nat → Int32) (z : Nat) (x : Int32) (i : Nat) : Bool := decide (nI i ≠ x) && (decide (i < z) && decide (cell i ≠ sBeats v i))
theorem E8_sh {e a : Nat} (he : isE e) (h1 : 45 ≤ a) (h2 : a ≤ 52) : ¬ E8 e a := fun q => by
  have := E_lt he
  rcases q with ⟨q1, q2⟩ | q
  · omega
  · rcases he with rfl | rfl | rfl <;> omega
theorem x_other {q : Xp} {I : Nat → Nat → Int32} {v : Ev} {e fu s z : Nat} {x : Int32} (he : isE e) (hR : RX q I e v) (hok : okEv v) (hs : s < 4) (hz : z ≤ 40) (h1 : I (45 + 2 * s) 1 = nI z) (hfu : 200 < fu) :
    ∃ I', smx (E8 e) I I' ∧ F_X0_firstOtherwise fu (mkX q I) e (some (45 + 2 * s)) x = some (fou (oth v (I (46 + 2 * s)) z x) (vP v) 0, mkX q I') := by
  obtain ⟨hP, hP6⟩ := hR.1
  have key : ∀ (d i n : Nat) (I1 : Nat → Nat → Int32), i + d = vP v → d < n → smx (E8 e) I I1 → ∃ I', smx (E8 e) I I' ∧ B_X0_firstOtherwise_2 fu e (some (45 + 2 * s)) x n (mkX q I1) (nI i) = some (fou (oth v (I (46 + 2 * s)) z x) d i, mkX q I') := by
    intro d
    induction d with
    | zero =>
      intro i n I1 hi hn hs1
      obtain ⟨n, rfl⟩ : ∃ q, n = q + 1 := ⟨n - 1, by omega⟩
      refine ⟨I1, hs1, ?_⟩
      show L_X0_firstOtherwise_2 _ _ _ _ _ _ _ = _
      unfold L_X0_firstOtherwise_2 B_X0_firstOtherwise_40
      rw [E_gI he, bind_some', (RX_8 hR hs1 he).1.1, if_pos (nI_le (by omega) (by omega))]
      rfl
    | succ d ih =>
      intro i n I1 hi hn hs1
      obtain ⟨n, rfl⟩ : ∃ q, n = q + 1 := ⟨n - 1, by omega⟩
      have hR1 := RX_8 hR hs1 he
      show ∃ I', _ ∧ L_X0_firstOtherwise_2 _ _ _ _ _ _ _ = some ((if oth v (I (46 + 2 * s)) z x i then nI i else fou (oth v (I (46 + 2 * s)) z x) d (i + 1)), mkX q I')
      unfold L_X0_firstOtherwise_2 B_X0_firstOtherwise_34
      rw [E_gI he, bind_some', hR1.1.1, if_neg (nI_ge (by omega) (by omega)), if_neg (by simp), nI_1]
      by_cases hx : nI i = x
      · have : oth v (I (46 + 2 * s)) z x i = false := by
          unfold oth
          rw [decide_eq_false (fun h => h hx), Bool.false_and]
        rw [if_pos hx, this, if_neg (by decide)]
        exact ih (i + 1) n I1 (by omega) (by omega) hs1
      · obtain ⟨I2, s2, x2⟩ := x_beats (fu := fu) he hR1 hok (p := i) (by omega) hfu
        have s12 := smx_tr hs1 s2
        have f1 : I2 (45 + 2 * s) = I (45 + 2 * s) := s12 _ (E8_sh he (by omega) (by omega))
        have f2 : I2 (46 + 2 * s) = I (46 + 2 * s) := s12 _ (E8_sh he (by omega) (by omega))
        have : oth v (I (46 + 2 * s)) z x i = (decide (i < z) && decide (I (46 + 2 * s) i ≠ sBeats v i)) := by
          unfold oth
          rw [decide_eq_true hx, Bool.true_and]
        rw [if_neg hx, E_ob he, bind_some', x2, b2_some, S_ob hs, bind_some', x_agrees hs hz (by omega) (by rw [f1]; exact h1), b2_some, f2, this]
        cases (decide (i < z) && decide (I (46 + 2 * s) i ≠ sBeats v i)) with
        | true => exact ⟨I2, s12, by rw [if_pos rfl, if_pos (show bI (!true) = 0 from rfl)]⟩
        | false =>
          rw [if_neg (show ¬ bI (!false) = 0 by decide), if_neg (by decide)]
          exact ih (i + 1) n I2 (by omega) (by omega) s12
  exact key (vP v) 0 fu I (by omega) (by omega) smx_rf
theorem m_unlike {J : Nat → Nat → Int32} {v : Ev} {fu s z : Nat} (hM : RM J v) (hs : s < 4) (hz : z ≤ vP v) (h1 : J 13 s = nI z) (hfu : 200 < fu) :
    ∃ J', sme [18, 19] J J' ∧ F_X8_unlike fu (mkM J) 0 (nI s) = some (fou (oth v (fun i => J 14 (40 * s + i)) z (-1)) z 0, mkM J') := by
  obtain ⟨hP, hP6⟩ := RM_P hM
  have key : ∀ (d i n : Nat) (J1 : Nat → Nat → Int32), i + d = z → d < n → sme [18, 19] J J1 → ∃ J', sme [18, 19] J J' ∧ B_X8_unlike_2 fu 0 (nI s) n (mkM J1) (nI i) = some (fou (oth v (fun i => J 14 (40 * s + i)) z (-1)) d i, mkM J') := by
    intro d
    induction d with
    | zero =>
      intro i n J1 hi hn hs1
      obtain ⟨n, rfl⟩ : ∃ q, n = q + 1 := ⟨n - 1, by omega⟩
      refine ⟨J1, hs1, ?_⟩
      show L_X8_unlike_2 _ _ _ _ _ _ = _
      unfold L_X8_unlike_2
      rw [M_r19, bind_some', M_g13 hs, bind_some', hs1 13 (by decide), h1, if_pos (nI_le (by omega) (by omega))]
      rfl
    | succ d ih =>
      intro i n J1 hi hn hs1
      obtain ⟨n, rfl⟩ : ∃ q, n = q + 1 := ⟨n - 1, by omega⟩
      have hM1 := RM_sme hM hs1 (by decide)
      obtain ⟨J2, t2, m2⟩ := m_beatsOf (fu := fu) hM1 (p := i) (by omega) hfu
      show ∃ J', _ ∧ L_X8_unlike_2 _ _ _ _ _ _ = some ((if oth v (fun i => J 14 (40 * s + i)) z (-1) i then nI i else fou (oth v (fun i => J 14 (40 * s + i)) z (-1)) d (i + 1)), mkM J')
      have hne : nI i ≠ -1 := fun h => by
        rw [eq_I, nI_toInt (by omega)] at h
        have e1 : (-1 : Int32).toInt = -1 := rfl
        omega
      have : oth v (fun i => J 14 (40 * s + i)) z (-1) i = decide (J 14 (40 * s + i) ≠ sBeats v i) := by
        unfold oth
        rw [decide_eq_true hne, Bool.true_and, decide_eq_true (show i < z by omega), Bool.true_and]
      unfold L_X8_unlike_2
      rw [M_r19, bind_some', M_g13 hs, bind_some', hs1 13 (by decide), h1, if_neg (nI_ge (by omega) (by omega)), M_r20, bind_some', lit 40, nI_mul, nI_add, M_g14 (by omega), bind_some', hs1 14 (by decide), M_ob, bind_some', m2, b2_some, this, nI_1]
      by_cases hx : J 14 (40 * s + i) = sBeats v i
      · rw [if_pos hx, decide_eq_false (fun h => h hx), if_neg (by decide)]
        exact ih (i + 1) n J2 (by omega) (by omega) (sme_tr hs1 t2)
      · exact ⟨J2, sme_tr hs1 t2, by rw [if_neg hx, decide_eq_true hx, if_pos rfl]⟩
  exact key z 0 fu J (by omega) (by omega) sme_rf
def refu (J : Nat → Nat → Int32) (P s : Nat) : Int32 := if J 12 s = -1 then -11 else if J 13 s ≤ nI P then 0 else -2
theorem x_refusal {q : Xp} {I J : Nat → Nat → Int32} {v : Ev} {s : Nat} (h : Rv q I J v) (hs : s < 4) : F_X7_refusalToJudge (mkX q I) 0 (some (45 + 2 * s)) = some (refu J (vP v) s, mkX q I) := by
  obtain ⟨y1, y2, -⟩ := h.2.2.2.2.2.2.2.1 s hs
  unfold F_X7_refusalToJudge B_X7_refusalToJudge_37 refu
  rw [if_neg (by simp), S_ob hs, bind_some', x_isMissing hs, b2_some, y1]
  by_cases hm : J 12 s = -1
  · rw [decide_eq_true hm, if_neg bIt, if_pos hm]
  · rw [decide_eq_false hm, if_pos bIf, if_neg hm, S_gI hs, bind_some', X_r0, bind_some', E_gI eE1, bind_some', h.1.1.1, y2]
    split <;> rfl
theorem m_sheetWrong {J : Nat → Nat → Int32} {v : Ev} {s : Nat} (hM : RM J v) (hs : s < 4) : F_X8_sheetWrong (mkM J) 0 (nI s) = some (refu J (vP v) s, mkM J) := by
  unfold F_X8_sheetWrong B_X8_sheetWrong_44 refu
  have e3 : F_X8_in (mkM J) (nI s) 0 3 = some (bI (inb (nI s) 4), mkM J) := m_in0 (by decide)
  rw [e3, b2_some, inb_nI hs (by decide), if_neg bIt, M_r18, bind_some', M_g12 hs, bind_some']
  by_cases hm : J 12 s = -1
  · rw [if_pos hm, if_pos hm]
  · rw [if_neg hm, if_neg hm, M_r19, bind_some', M_g13 hs, bind_some', M_gI, bind_some', hM.1.1]
    split <;> rfl
theorem m_sheetNo {J : Nat → Nat → Int32} {x : Int32} (hx : inb x 4 = false) : F_X8_sheetWrong (mkM J) 0 x = some (-2, mkM J) := by
  unfold F_X8_sheetWrong
  have e3 : F_X8_in (mkM J) x 0 3 = some (bI (inb x 4), mkM J) := m_in0 (by decide)
  rw [e3, b2_some, hx, if_pos bIf]
theorem refu_0 {J : Nat → Nat → Int32} {P s z : Nat} (h : refu J P s = 0) (hz : J 13 s = nI z) (h40 : z ≤ 40) (hP : P ≤ 6) : z ≤ P := by
  unfold refu at h
  by_cases hm : J 12 s = -1
  · rw [if_pos hm] at h
    exact absurd h (by decide)
  · rw [if_neg hm] at h
    by_cases hc : J 13 s ≤ nI P
    · rw [hz, le_I, nI_toInt (by omega), nI_toInt (by omega)] at hc
      omega
    · rw [if_neg hc] at h
      exact absurd h (by decide)
theorem al_judge {fu : Nat} (hfu : 200 < fu) : Al_judge Rel fu := by
  rintro SX SM ⟨q, I, J, v, rfl, rfl, h⟩ a1
  have hX := Rv_X h
  have hM := Rv_M h
  unfold F_X7_judge F_X8_judge B_X7_judge_29 B_X8_judge_19
  rw [X_o0, bind_some', M_ob, bind_some']
  cases hb : inb a1 4 with
  | false => exact ⟨-2, _, _, by rw [x_sheetNo hb, b2_some, X_o0, bind_some', F_X7_refusalToJudge, if_pos rfl, b2_some, if_neg (by decide)], by rw [m_sheetNo hb, b2_some, if_neg (by decide)], q, I, J, v, rfl, rfl, h⟩
  | true =>
    obtain ⟨s, hs, rfl⟩ := inb_of hb (by decide)
    obtain ⟨y1, y2, ⟨z, hz, ez⟩, y4, y5⟩ := h.2.2.2.2.2.2.2.1 s hs
    rw [x_sheetAt hs, b2_some, X_o0, bind_some', x_refusal h hs, b2_some, m_sheetWrong hM hs, b2_some]
    by_cases hr : refu J (vP v) s = 0
    · have hzP := refu_0 hr ez hz h.1.1.2
      obtain ⟨I1, s1, x1⟩ := x_other (x := -1) (fu := fu) eE1 hX h.2.2.1 hs hz (y2.trans ez) hfu
      obtain ⟨J1, t1, m1⟩ := m_unlike (fu := fu) hM hs hzP ez hfu
      have e : fou (oth v (I (46 + 2 * s)) z (-1)) (vP v) 0 = fou (oth v (fun i => J 14 (40 * s + i)) z (-1)) z 0 := by
        have e1 : oth v (I (46 + 2 * s)) z (-1) = oth v (fun i => J 14 (40 * s + i)) z (-1) := by
          funext i
          unfold oth
          by_cases hi : i < z
          · rw [y5 i (by omega)]
          · rw [decide_eq_false hi, Bool.false_and, Bool.false_and]
        rw [e1]
        have := fou_cut (c := oth v (fun i => J 14 (40 * s + i)) z (-1)) (z := z) (fun k hk => by
          unfold oth
          rw [decide_eq_false (show ¬ k < z by omega), Bool.false_and, Bool.and_false]) z 0 (vP v - z) (by omega)
        rw [show z + (vP v - z) = vP v by omega] at this
        exact this
      exact ⟨_, _, _, by rw [if_pos hr, X_r0, bind_some', E_ob eE1, bind_some', x1, b2_some], by rw [if_pos hr, M_ob, bind_some', m1, b2_some, e], q, I1, J1, v, rfl, rfl, Rv_mono h (EC_8 (Or.inl rfl) s1) (sm0_of t1 (by decide))⟩
    · exact ⟨_, _, _, by rw [if_neg hr], by rw [if_neg hr], q, I, J, v, rfl, rfl, h⟩
