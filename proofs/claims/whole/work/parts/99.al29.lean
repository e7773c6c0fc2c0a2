/-! who did a wrong, by which text -/
def whOf (v : Ev) (k : Nat) (y : Int32) : Ev := (vP v, vW v, vDay v, vKind v, vMore v, vPride v, vName v, updf (vDo v) k y, vWt v, vSw v, vCode v, vBnd v)
def cW (v : Ev) (k0 : Nat) (cell : Nat → Int32) (z k : Nat) : Bool := agB (whOf v k0 (nI k)) cell z
theorem okEv_wh {v : Ev} {k0 j : Nat} (h : okEv v) (hj : j < 64) : okEv (whOf v k0 (nI j)) := by
  refine ⟨h.1, fun k hk => ⟨?_, (h.2 k hk).2⟩⟩
  show ∃ d, d < 64 ∧ updf (vDo v) k0 (nI j) k = nI d
  by_cases hkk : k = k0
  · rw [hkk, updf_s]; exact ⟨j, hj, rfl⟩
  · rw [updf_o hkk]; exact (h.2 k hk).1
theorem pow6 {P : Nat} (h : P ≤ 6) : 1 ≤ 2 ^ P ∧ 2 ^ P ≤ 64 := by
  have h1 : 2 ^ P ≤ 2 ^ 6 := Nat.pow_le_pow_right (by omega) h
  have h2 : 0 < 2 ^ P := Nat.two_pow_pos P
  omega
theorem x_whoseL {q : Xp} {I : Nat → Nat → Int32} {v : Ev} {k0 w s z fu : Nat} (hR1 : EX I 1 v) (hR : RX q I 12 v) (hok : okEv v) (hk0 : k0 < vW v) (hw : w < 2) (hs : s < 4) (hz : z ≤ vP v) (h1 : I (45 + 2 * s) 1 = nI z) (hfu : 200 < fu) :
    ∃ I', smx EC I I' ∧ B_X7_whose_67 fu 0 (nI k0) (nI w) (some (45 + 2 * s)) fu (mkX q I) 0 (-1) (nI 1) = some (if w = 0 then (fold (pst (cW v k0 (I (46 + 2 * s)) z) 1) (2 ^ vP v - 1) (0, -1)).1 else (fold (pst (cW v k0 (I (46 + 2 * s)) z) 1) (2 ^ vP v - 1) (0, -1)).2, mkX q I') := by
  obtain ⟨hP, hP6⟩ := hR.1
  have hW10 := hR.2.1.2
  obtain ⟨n1, n2⟩ := pow6 hP6
  obtain ⟨I', ⟨s1, -⟩, h⟩ := loop2 (mkX q) (B_X7_whose_67 fu 0 (nI k0) (nI w) (some (45 + 2 * s))) (fun k => L_X7_whose_67 k fu 0 (nI k0) (nI w) (some (45 + 2 * s))) (fun n => rfl) 1 (2 ^ vP v - 1) (pst (cW v k0 (I (46 + 2 * s)) z) 1) 0 (-1) (fun _ I' => smx (EK 4) I I' ∧ ∀ b, b ≠ k0 → I' 17 b = I 17 b) (fun ab I' => some (if w = 0 then ab.1 else ab.2, mkX q I')) (by
    intro k I' hi
    unfold L_X7_whose_67 B_X7_whose_142
    rw [X_r0, bind_some', E_gI eE1, bind_some', hi.1 1 (EK_n (by omega) (by omega) (by omega)), hR1.1.1, sh_n _ (by omega), if_pos (nI_le (by omega) (by omega))]
    rcases (show w = 0 ∨ w = 1 by omega) with rfl | rfl
    · rw [if_pos (show nI 0 = 0 from rfl), if_pos rfl]
    · rw [if_neg (show ¬ nI 1 = 0 by decide), if_neg (by decide)]) (by
    intro k I' j hj hi
    obtain ⟨hi, hr⟩ := hi
    have inv := pst_inv (c := cW v k0 (I (46 + 2 * s)) z) (s := 1) j (by omega)
    generalize fold (pst (cW v k0 (I (46 + 2 * s)) z) 1) j (0, -1) = ab at inv ⊢
    have s2 : smx (EK 4) I (up2 I' 17 k0 (nI (1 + j))) := smx_tr hi (smx_up (Or.inr rfl))
    have st : F_X7_store (mkX q I') (some (12 + 5)) (nI k0) (nI (1 + j)) = some (mkX q (up2 I' 17 k0 (nI (1 + j)))) := E_s5 eE12 (by omega)
    have ex : EX (up2 I' 17 k0 (nI (1 + j))) 12 (whOf v k0 (nI (1 + j))) := by
      have f : ∀ i, i < 8 → i ≠ 5 → up2 I' 17 k0 (nI (1 + j)) (12 + i) = I (12 + i) := fun i hi' hiw => (funext fun b => up2_o (by omega)).trans (hi _ (EK_n (by omega) (by omega) (by omega)))
      have f0 := f 0 (by decide) (by omega)
      obtain ⟨g1, g2, g3, g4, g5⟩ := RX_E hR
      refine ⟨by rw [show (12 : Nat) = 12 + 0 from rfl, f0]; exact g1, by rw [show (12 : Nat) = 12 + 0 from rfl, f0]; exact g2, by rw [show (12 : Nat) = 12 + 0 from rfl, f0]; exact g3, fun i hi' => ?_, fun k' hk => ?_⟩
      · rw [f 1 (by omega) (by omega), f 2 (by omega) (by omega), f 3 (by omega) (by omega), f 4 (by omega) (by omega)]
        exact g4 i hi'
      · obtain ⟨y1, y2, y3⟩ := g5 k' hk
        rw [f 6 (by omega) (by omega), f 7 (by omega) (by omega)]
        refine ⟨?_, y2, y3⟩
        show up2 I' 17 k0 (nI (1 + j)) 17 k' = updf (vDo v) k0 (nI (1 + j)) k'
        rw [up2_row]
        by_cases hkk : k' = k0
        · rw [if_pos hkk, hkk, updf_s]
        · rw [if_neg hkk, updf_o hkk, hr k' hkk]; exact y1
    have x12 : RX q (up2 I' 17 k0 (nI (1 + j))) 12 (whOf v k0 (nI (1 + j))) := RX_of hR ex ⟨rfl, rfl⟩ ⟨rfl, rfl, rfl⟩ (fun a h1 h2 => EK_C (by omega) s2 a (EC_n (by omega)))
    have f45 : up2 I' 17 k0 (nI (1 + j)) (45 + 2 * s) = I (45 + 2 * s) := s2 _ (EK_n (by omega) (by omega) (by omega))
    have f46 : up2 I' 17 k0 (nI (1 + j)) (46 + 2 * s) = I (46 + 2 * s) := s2 _ (EK_n (by omega) (by omega) (by omega))
    obtain ⟨I3, s3, f3⟩ := x_other (x := -1) (fu := fu) eE12 x12 (okEv_wh hok (by omega)) hs (z := z) (by omega) (by rw [f45]; exact h1) hfu
    rw [f46, judge_eq (v := whOf v k0 (nI (1 + j))) hz (fun _ _ => rfl)] at f3
    refine ⟨I3, ⟨smx_tr s2 (smx_wk s3 (fun a ha => Or.inl ha)), fun b hb => ?_⟩, ?_⟩
    · rw [s3 _ (fun q => by rcases q with ⟨q1, q2⟩ | q <;> omega), up2_j hb]
      exact hr b hb
    · unfold L_X7_whose_67 B_X7_whose_120 B_X7_whose_125 pst
      rw [X_r0, bind_some', E_gI eE1, bind_some', hi 1 (EK_n (by omega) (by omega) (by omega)), hR1.1.1, sh_n _ (by omega), if_neg (nI_ge (by omega) (by omega)), X_r1, bind_some', E_r6 eE12, bind_some', st, bind_some', X_r1, bind_some', E_ob eE12, bind_some', f3, b2_some, nI_1]
      by_cases hc : fou (oth (whOf v k0 (nI (1 + j))) (I (46 + 2 * s)) z (-1)) z 0 = -1
      · have hc' : cW v k0 (I (46 + 2 * s)) z (1 + j) = true := decide_eq_true hc
        rw [if_pos hc, if_pos hc']
        by_cases hn : ab.1 = 0
        · rw [if_pos hn, if_pos (inv.mp hn)]
        · rw [if_neg hn, if_neg (fun q => hn (inv.mpr q))]
      · have hc' : ¬ cW v k0 (I (46 + 2 * s)) z (1 + j) = true := fun q => hc (of_decide_eq_true q)
        rw [if_neg hc, if_neg hc']) I ⟨smx_rf, fun _ _ => rfl⟩ fu (by omega)
  exact ⟨I', EK_C (by omega) s1, h⟩
theorem m_whoseL {J : Nat → Nat → Int32} {v : Ev} {k0 w s z fu : Nat} (hM : RM J v) (hk0 : k0 < vW v) (hw : w < 2) (hs : s < 4) (hz : z ≤ vP v) (h1 : J 13 s = nI z) (hfu : 200 < fu) :
    ∃ J', sme [18, 19] J J' ∧ B_X8_whose_55 fu 0 (nI s) (nI k0) (nI w) (J 4 k0) fu (mkM J) 0 (-1) (nI 1) = some (if w = 0 then (fold (pst (cW v k0 (fun i => J 14 (40 * s + i)) z) 1) (2 ^ vP v - 1) (0, -1)).1 else (fold (pst (cW v k0 (fun i => J 14 (40 * s + i)) z) 1) (2 ^ vP v - 1) (0, -1)).2, mkM J') := by
  obtain ⟨hP, hP6⟩ := hM.1
  have hW10 := hM.2.1.2
  obtain ⟨n1, n2⟩ := pow6 hP6
  obtain ⟨J', ⟨g1, g2⟩, h⟩ := loop2 mkM (B_X8_whose_55 fu 0 (nI s) (nI k0) (nI w) (J 4 k0)) (fun k => L_X8_whose_55 k fu 0 (nI s) (nI k0) (nI w) (J 4 k0)) (fun n => rfl) 1 (2 ^ vP v - 1) (pst (cW v k0 (fun i => J 14 (40 * s + i)) z) 1) 0 (-1) (fun _ J' => (∀ a, a ≠ 4 → a ≠ 18 → a ≠ 19 → J' a = J a) ∧ ∀ b, b ≠ k0 → J' 4 b = J 4 b) (fun ab J' => some (if w = 0 then ab.1 else ab.2, mkM (up2 J' 4 k0 (J 4 k0)))) (by
    intro k J' hi
    unfold L_X8_whose_55 B_X8_whose_150
    rw [M_gI, bind_some', hi.1 0 (by decide) (by decide) (by decide), hP, sh_n _ (by omega), if_pos (nI_le (by omega) (by omega)), M_r4, bind_some', M_p4 (by omega), bind_some']
    rcases (show w = 0 ∨ w = 1 by omega) with rfl | rfl
    · rw [if_pos (show nI 0 = 0 from rfl), if_pos rfl]
    · rw [if_neg (show ¬ nI 1 = 0 by decide), if_neg (by decide)]) (by
    intro k J' j hj hi
    obtain ⟨g1, g2⟩ := hi
    generalize fold (pst (cW v k0 (fun i => J 14 (40 * s + i)) z) 1) j (0, -1) = ab
    have o : ∀ c, c ≠ 4 → c ≠ 18 → c ≠ 19 → up2 J' 4 k0 (nI (1 + j)) c = J c := fun c h1 h2 h3 => (funext fun b => up2_o h1).trans (g1 c h1 h2 h3)
    have em : EM (up2 J' 4 k0 (nI (1 + j))) (whOf v k0 (nI (1 + j))) := by
      obtain ⟨m1, m2, m3, m4, m5⟩ := RM_E hM
      refine ⟨by rw [o 0 (by decide) (by decide) (by decide)]; exact m1, by rw [o 0 (by decide) (by decide) (by decide)]; exact m2, by rw [o 0 (by decide) (by decide) (by decide)]; exact m3, fun i hi => ?_, fun k hk => ?_⟩
      · rw [o 1 (by decide) (by decide) (by decide), o 2 (by decide) (by decide) (by decide), o 3 (by decide) (by decide) (by decide)]
        exact m4 i hi
      · obtain ⟨z1, z2, z3⟩ := m5 k hk
        rw [o 5 (by decide) (by decide) (by decide), o 6 (by decide) (by decide) (by decide)]
        refine ⟨?_, z2, z3⟩
        show up2 J' 4 k0 (nI (1 + j)) 4 k = updf (vDo v) k0 (nI (1 + j)) k
        rw [up2_row]
        by_cases hkk : k = k0
        · rw [hkk, if_pos rfl, updf_s]
        · rw [if_neg hkk, updf_o hkk, g2 _ hkk]; exact z1
    have rm : RM (up2 J' 4 k0 (nI (1 + j))) (whOf v k0 (nI (1 + j))) := RM_of hM em ⟨rfl, rfl⟩ (by rw [o 0 (by decide) (by decide) (by decide)]) (o 9 (by decide) (by decide) (by decide)) (o 8 (by decide) (by decide) (by decide))
    obtain ⟨J3, t3, m3⟩ := m_unlike (fu := fu) rm hs (z := z) hz (by rw [o 13 (by decide) (by decide) (by decide)]; exact h1) hfu
    rw [o 14 (by decide) (by decide) (by decide)] at m3
    refine ⟨J3, ⟨fun c h1 h2 h3 => (t3 c (by simp; omega)).trans (o c h1 h2 h3), fun b hb => by rw [t3 4 (by decide), up2_j hb]; exact g2 b hb⟩, ?_⟩
    unfold L_X8_whose_55 B_X8_whose_88 B_X8_whose_102 B_X8_whose_121 B_X8_whose_123 pst
    rw [M_gI, bind_some', g1 0 (by decide) (by decide) (by decide), hP, sh_n _ (by omega), if_neg (nI_ge (by omega) (by omega)), M_r4, bind_some', M_p4 (by omega), bind_some', M_ob, bind_some', m3, b2_some, nI_1]
    by_cases hc : fou (oth (whOf v k0 (nI (1 + j))) (fun i => J 14 (40 * s + i)) z (-1)) z 0 = -1
    · have hc' : cW v k0 (fun i => J 14 (40 * s + i)) z (1 + j) = true := decide_eq_true hc
      rw [if_pos hc, if_pos hc', if_neg (show ¬ (1 : Int32) = 0 by decide), if_neg (show ¬ (1 : Int32) = 0 by decide)]
      by_cases hl : ab.2 = -1
      · rw [if_pos hl, if_pos hl]
      · rw [if_neg hl, if_neg hl]
    · have hc' : ¬ cW v k0 (fun i => J 14 (40 * s + i)) z (1 + j) = true := fun q => hc (of_decide_eq_true q)
      rw [if_neg hc, if_neg hc', if_pos rfl, if_pos rfl, Int32.add_zero]) J ⟨fun _ _ _ _ => rfl, fun _ _ => rfl⟩ fu (by omega)
  exact ⟨_, sme_row g1 g2 rfl, h⟩
theorem al_whose {fu : Nat} (hfu : 200 < fu) : Al_whose Rel fu := by
  rintro SX SM ⟨q, I, J, v, rfl, rfl, h⟩ a1 a2 a3
  have hM := Rv_M h
  have hok := h.2.2.1
  obtain ⟨hP, hP6⟩ := hM.1
  obtain ⟨hW, hW10⟩ := hM.2.1
  have no : ∀ x : Int32, ∃ (r : Int32) (SX1 SM1 : Hp), (some (x, mkX q I) : Option (Int32 × Hp)) = some (r, SX1) ∧ (some (x, mkM J) : Option (Int32 × Hp)) = some (r, SM1) ∧ Rel SX1 SM1 := fun x => ⟨x, _, _, rfl, rfl, q, I, J, v, rfl, rfl, h⟩
  have e3 : F_X8_in (mkM J) a3 0 1 = some (bI (inb a3 2), mkM J) := m_in0 (by decide)
  unfold F_X7_whose F_X8_whose
  rw [X_o0, bind_some', M_ob, bind_some']
  cases hb1 : inb a1 4 with
  | false =>
    rw [x_sheetNo hb1, b2_some, X_o0, bind_some', F_X7_refusalToJudge, if_pos rfl, b2_some, if_neg (by decide), m_sheetNo hb1, b2_some, if_neg (by decide)]
    exact no _
  | true =>
    obtain ⟨s, hs, rfl⟩ := inb_of hb1 (by decide)
    obtain ⟨y1, y2, ⟨z, hz, ez⟩, y4, y5⟩ := h.2.2.2.2.2.2.2.1 s hs
    rw [x_sheetAt hs, b2_some, X_o0, bind_some', x_refusal h hs, b2_some, m_sheetWrong hM hs, b2_some]
    by_cases hr : refu J (vP v) s = 0
    · have hzP := refu_0 hr ez hz hP6
      rw [if_pos hr, if_pos hr, X_r0, bind_some', E_ob eE1, bind_some', x_hasWrong eE1 h.1, b2_some, M_ob, bind_some', m_isWrong hW hW10, b2_some]
      cases hb2 : inb a2 (vW v) with
      | false =>
        rw [if_pos bIf, if_pos bIf]
        exact no _
      | true =>
        obtain ⟨k0, hk0, rfl⟩ := inb_of hb2 (by omega)
        rw [if_neg bIt, if_neg bIt, x_zo, b2_some, e3, b2_some]
        cases hb3 : inb a3 2 with
        | false =>
          rw [if_pos bIf, if_pos bIf]
          exact no _
        | true =>
          obtain ⟨w, hw, rfl⟩ := inb_of hb3 (by decide)
          obtain ⟨I2, s2, -, x2, f2⟩ := x_think (fu := fu) h (Or.inl rfl) smx_rf hfu
          have e45 : I2 (45 + 2 * s) = I (45 + 2 * s) := s2 _ (EC_n (by omega))
          have e46 : I2 (46 + 2 * s) = I (46 + 2 * s) := s2 _ (EC_n (by omega))
          obtain ⟨I4, s4, f4⟩ := x_whoseL (w := w) (fu := fu) (EX_mono h.1 (fun i hi => s2 _ (EC_n (by omega)))) x2 hok hk0 hw hs hzP (by rw [e45]; exact y2.trans ez) hfu
          obtain ⟨J4, t4, m4⟩ := m_whoseL (w := w) (fu := fu) hM hk0 hw hs hzP ez hfu
          have ef : fold (pst (cW v k0 (I2 (46 + 2 * s)) z) 1) (2 ^ vP v - 1) (0, -1) = fold (pst (cW v k0 (fun i => J 14 (40 * s + i)) z) 1) (2 ^ vP v - 1) (0, -1) :=
            pst_c (fun k => agB_c (fun i hi => by rw [e46]; exact y5 i (by omega)))
          have hR1 : Rel (mkX (qT q) I4) (mkM J4) := ⟨qT q, I4, J4, v, rfl, rfl, Rv_mw2 h ⟨rfl, rfl, rfl, rfl⟩ (smx_tr s2 s4) (sm0_of t4 (by decide))⟩
          rw [ef] at f4
          rw [if_neg bIt, if_neg bIt, X_r1, bind_some', X_r0, bind_some', E_ob eE12, bind_some', f2, bind_some', M_r4, bind_some', M_g4 (by omega), bind_some']
          exact ⟨_, _, _, f4, m4, hR1⟩
    · rw [if_neg hr, if_neg hr]
      exact no _
theorem al_laws {fu : Nat} (hfu : 200 < fu) : Al_laws Rel fu := by
  rintro SX SM ⟨q, I, J, v, rfl, rfl, h⟩ a1
  have hX := Rv_X h
  have hM := Rv_M h
  have hok := h.2.2.1
  obtain ⟨hP, hP6⟩ := hM.1
  obtain ⟨t1, t2, t3, t4, t5⟩ := h.2.2.2.2.2.1
  have no : ∀ x : Int32, ∃ (r : Int32) (SX1 SM1 : Hp), (some (x, mkX q I) : Option (Int32 × Hp)) = some (r, SX1) ∧ (some (x, mkM J) : Option (Int32 × Hp)) = some (r, SM1) ∧ Rel SX1 SM1 := fun x => ⟨x, _, _, rfl, rfl, q, I, J, v, rfl, rfl, h⟩
  unfold F_X7_laws F_X8_laws
  rw [X_o0, bind_some', M_ob, bind_some']
  cases hb1 : inb a1 4 with
  | false =>
    rw [x_sheetNo hb1, b2_some, X_o0, bind_some', F_X7_refusalToJudge, if_pos rfl, b2_some, if_neg (by decide), m_sheetNo hb1, b2_some, if_neg (by decide)]
    exact no _
  | true =>
    obtain ⟨s, hs, rfl⟩ := inb_of hb1 (by decide)
    obtain ⟨y1, y2, ⟨z, hz, ez⟩, y4, y5⟩ := h.2.2.2.2.2.2.2.1 s hs
    rw [x_sheetAt hs, b2_some, X_o0, bind_some', x_refusal h hs, b2_some, m_sheetWrong hM hs, b2_some]
    by_cases hr : refu J (vP v) s = 0
    · have hzP := refu_0 hr ez hz hP6
      obtain ⟨CB, hCB⟩ := Classical.axiomOfChoice (show ∀ t : Nat, ∃ cb : (Nat → Int32) × (Nat → Nat), t < q.1 → LT q I J t cb.1 cb.2 from fun t => by
        by_cases ht : t < q.1
        · obtain ⟨c, b, hcb⟩ := t5 t ht
          exact ⟨(c, b), fun _ => hcb⟩
        · exact ⟨(fun _ => 0, fun _ => 0), fun q => absurd q ht⟩)
      obtain ⟨I2, s2, -, x2, f2⟩ := x_think (fu := fu) h (Or.inl rfl) smx_rf hfu
      have e45 : I2 (45 + 2 * s) = I (45 + 2 * s) := s2 _ (EC_n (by omega))
      have e46 : I2 (46 + 2 * s) = I (46 + 2 * s) := s2 _ (EC_n (by omega))
      rw [if_pos hr, if_pos hr, X_r1, bind_some', X_r0, bind_some', E_ob eE12, bind_some', f2, bind_some', M_gI, bind_some']
      obtain ⟨⟨q3, I3⟩, ⟨hq3, s3, -⟩, x3⟩ := loop1z mkXs (B_X7_laws_35 fu 0 (some (45 + 2 * s))) (fun k => L_X7_laws_35 k fu 0 (some (45 + 2 * s))) (fun n => rfl) q.1 (knf (fun t => agB (setLaw v (CB t).1 (CB t).2) (fun i => J 14 (40 * s + i)) z)) 0 (fun _ st => (st.1.1 = q.1 ∧ st.1.2.1 = q.2.1 ∧ st.1.2.2.1 = q.2.2.1 ∧ st.1.2.2.2.2 = q.2.2.2.2) ∧ smx EC I st.2 ∧ EX st.2 12 v) (fun a st => some (a, mkXs st)) (by
        rintro k ⟨q1, I1⟩ ⟨hq, hs1, he1⟩
        have hs1 : smx EC I I1 := hs1
        show L_X7_laws_35 k fu 0 (some (45 + 2 * s)) (mkX q1 I1) _ _ = some (_, mkX q1 I1)
        unfold L_X7_laws_35
        rw [X_g0, bind_some', hs1 0 (EC_n (by omega)), t3, if_pos (nI_le (Nat.le_refl _) (by omega))]) (by
        rintro k ⟨q1, I1⟩ t ht ⟨hq, hs1, he1⟩
        have hs1 : smx EC I I1 := hs1
        have he1 : EX I1 12 v := he1
        obtain ⟨hq1, hq2, hq3, hq4⟩ := hq
        have hq1 : q1.1 = q.1 := hq1
        have hq2 : q1.2.1 = q.2.1 := hq2
        obtain ⟨l1, l2, l3, l4, l5, l6, l7⟩ := hCB t ht
        generalize fold (knf (fun t => agB (setLaw v (CB t).1 (CB t).2) (fun i => J 14 (40 * s + i)) z)) t 0 = a
        have su : smx EC I (up2 I1 12 10 (nI t)) := smx_tr hs1 (smx_up (Or.inl (by omega)))
        have ex : EX (up2 I1 12 10 (nI t)) 12 v := by
          obtain ⟨g1, g2, g3, g4, g5⟩ := he1
          refine ⟨g1, g2, g3, ?_, ?_⟩
          · intro p hp
            rw [up2_o (by decide), up2_o (by decide), up2_o (by decide), up2_o (by decide)]
            exact g4 p hp
          · intro k' hk
            rw [up2_o (by decide), up2_o (by decide), up2_o (by decide)]
            exact g5 k' hk
        have x12 : RX (setL q1 12 (some (53 + 4 * t))) (up2 I1 12 10 (nI t)) 12 (setLaw v (CB t).1 (CB t).2) := by
          refine ⟨ex.1, ex.2.1, ex.2.2.1, ex.2.2.2.1, ex.2.2.2.2, ⟨t, by show t < q1.1; rw [hq1]; exact ht, rfl, by show q1.2.1 t = _; rw [hq2]; exact l3, fun i hi => ?_, fun i hi => ?_⟩, l2⟩
          · rw [su _ (EC_n (by omega))]; exact l4 i hi
          · rw [su _ (EC_n (by omega))]; exact l5 i hi
        obtain ⟨I3, s3, f3⟩ := x_other (x := -1) (fu := fu) eE12 x12 hok hs (z := z) hz (by rw [su _ (EC_n (by omega))]; exact y2.trans ez) hfu
        rw [judge_eq (v := setLaw v (CB t).1 (CB t).2) (cm := fun i => J 14 (40 * s + i)) hzP (fun i hi => by rw [su _ (EC_n (by omega))]; exact y5 i (by omega))] at f3
        refine ⟨(setL q1 12 (some (53 + 4 * t)), I3), ⟨⟨hq1, hq2, hq3, hq4⟩, smx_tr su (EC_8 (Or.inr rfl) s3), (show EX I3 12 (setLaw v (CB t).1 (CB t).2) from RX_E (RX_8 x12 s3 eE12))⟩, ?_⟩
        show L_X7_laws_35 k fu 0 (some (45 + 2 * s)) (mkX q1 I1) _ _ = k (mkX (setL q1 12 (some (53 + 4 * t))) I3) _ _
        unfold L_X7_laws_35 B_X7_laws_81 F_X0_rule knf
        rw [X_g0, bind_some', hs1 0 (EC_n (by omega)), t3, if_neg (nI_ge ht (by omega)), X_r1, bind_some', X_o0, bind_some', X_text (by rw [hq1]; exact ht) (by rw [hq1]; exact t2), b2_some, E_ob eE12, bind_some', E_pI eE12, bind_some', E_pR eE12 (okR_t (by rw [hq1]; exact ht)), bind_some', bind_some', X_r1, bind_some', E_ob eE12, bind_some', f3, b2_some, nI_1]
        by_cases hc : fou (oth (setLaw v (CB t).1 (CB t).2) (fun i => J 14 (40 * s + i)) z (-1)) z 0 = -1
        · have hc' : agB (setLaw v (CB t).1 (CB t).2) (fun i => J 14 (40 * s + i)) z = true := decide_eq_true hc
          rw [if_pos hc, if_pos hc']
        · have hc' : ¬ agB (setLaw v (CB t).1 (CB t).2) (fun i => J 14 (40 * s + i)) z = true := fun q => hc (of_decide_eq_true q)
          rw [if_neg hc, if_neg hc', Int32.or_zero]) (qT q, I2) ⟨⟨rfl, rfl, rfl, rfl⟩, s2, RX_E x2⟩ fu (by omega)
      obtain ⟨J3, ⟨w1, w2⟩, m3⟩ := loop1z mkM (B_X8_laws_23 fu 0 (nI s) (J 0 14)) (fun k => L_X8_laws_23 k fu 0 (nI s) (J 0 14)) (fun n => rfl) q.1 (knf (fun t => agB (setLaw v (CB t).1 (CB t).2) (fun i => J 14 (40 * s + i)) z)) 0 (fun _ J' => (∀ a, a ≠ 0 → a ≠ 18 → a ≠ 19 → J' a = J a) ∧ ∀ b, b ≠ 14 → J' 0 b = J 0 b) (fun a J' => some (a, mkM (up2 J' 0 14 (J 0 14)))) (by
        intro k J' hi
        unfold L_X8_laws_23
        rw [M_gI, bind_some', hi.2 13 (by decide), t4, if_pos (nI_le (Nat.le_refl _) (by omega)), M_pI, bind_some']) (by
        intro k J' t ht hi
        obtain ⟨g1, g2⟩ := hi
        obtain ⟨l1, l2, l3, l4, l5, l6, l7⟩ := hCB t ht
        generalize fold (knf (fun t => agB (setLaw v (CB t).1 (CB t).2) (fun i => J 14 (40 * s + i)) z)) t 0 = a
        have o : ∀ c, c ≠ 0 → c ≠ 18 → c ≠ 19 → up2 J' 0 14 (nI t) c = J c := fun c h1 h2 h3 => (funext fun b => up2_o h1).trans (g1 c h1 h2 h3)
        have rm : RM (up2 J' 0 14 (nI t)) (setLaw v (CB t).1 (CB t).2) := by
          obtain ⟨m1, m2, m3, m4, m5⟩ := RM_E hM
          refine ⟨by rw [up2_j (by decide), g2 0 (by decide)]; exact m1, by rw [up2_j (by decide), g2 7 (by decide)]; exact m2, by rw [up2_j (by decide), g2 8 (by decide)]; exact m3, fun i hi => ?_, fun k hk => ?_, ⟨t, by omega, up2_s, fun i hi => ?_, fun i hi => ?_⟩, l2⟩
          · rw [o 1 (by decide) (by decide) (by decide), o 2 (by decide) (by decide) (by decide), o 3 (by decide) (by decide) (by decide)]
            exact m4 i hi
          · rw [o 4 (by decide) (by decide) (by decide), o 5 (by decide) (by decide) (by decide), o 6 (by decide) (by decide) (by decide)]
            exact m5 k hk
          · rw [o 9 (by decide) (by decide) (by decide)]; exact l6 i hi
          · rw [o 8 (by decide) (by decide) (by decide)]; exact l7 i hi
        obtain ⟨J3, w3, m3⟩ := m_unlike (fu := fu) rm hs (z := z) hzP (by rw [o 13 (by decide) (by decide) (by decide)]; exact ez) hfu
        rw [o 14 (by decide) (by decide) (by decide)] at m3
        refine ⟨J3, ⟨fun c h1 h2 h3 => (w3 c (by simp; omega)).trans (o c h1 h2 h3), fun b hb => by rw [w3 0 (by decide), up2_j hb]; exact g2 b hb⟩, ?_⟩
        unfold L_X8_laws_23 B_X8_laws_57 knf
        rw [M_gI, bind_some', g2 13 (by decide), t4, if_neg (nI_ge ht (by omega)), M_pI, bind_some', M_ob, bind_some', m3, b2_some, nI_1]
        by_cases hc : fou (oth (setLaw v (CB t).1 (CB t).2) (fun i => J 14 (40 * s + i)) z (-1)) z 0 = -1
        · have hc' : agB (setLaw v (CB t).1 (CB t).2) (fun i => J 14 (40 * s + i)) z = true := decide_eq_true hc
          rw [if_pos hc, if_pos hc']
        · have hc' : ¬ agB (setLaw v (CB t).1 (CB t).2) (fun i => J 14 (40 * s + i)) z = true := fun q => hc (of_decide_eq_true q)
          rw [if_neg hc, if_neg hc']) J ⟨fun _ _ _ _ => rfl, fun _ _ => rfl⟩ fu (by omega)
      exact ⟨_, _, _, x3, m3, q3, I3, _, v, rfl, rfl, Rv_mw2 h hq3 s3 (sm0_of (sme_row (r := 0) w1 w2 rfl) (by decide))⟩
    · rw [if_neg hr, if_neg hr]
      exact no _
