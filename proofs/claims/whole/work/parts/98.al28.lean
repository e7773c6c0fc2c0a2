/-! how proud one is -/
def cR (v : Ev) (p : Nat) (cell : Nat → Int32) (z k : Nat) : Bool := agB (setP v (updf (vPride v) p (nI k))) cell z
theorem okEv_setP {v : Ev} {p j : Nat} (h : okEv v) (hj : j < 100) : okEv (setP v (updf (vPride v) p (nI j))) := by
  refine ⟨fun i hi => ?_, h.2⟩
  obtain ⟨h1, h2, h3, h4⟩ := h.1 i hi
  refine ⟨h1, h2, ?_, h4⟩
  show ∃ k, k < 100 ∧ updf (vPride v) p (nI j) i = nI k
  by_cases hip : i = p
  · rw [hip, updf_s]; exact ⟨j, hj, rfl⟩
  · rw [updf_o hip]; exact h3
theorem setP_o {v : Ev} {p i : Nat} {y : Int32} (hi : i ≠ p) : sBeats (setP v (updf (vPride v) p y)) i = sBeats v i :=
  sBeats_o rfl rfl rfl rfl (updf_o hi) rfl rfl rfl rfl rfl
theorem x_pridesL {q : Xp} {I : Nat → Nat → Int32} {v : Ev} {p w s z fu : Nat} {fl : Int32} (hR : RX q I 12 v) (hok : okEv v) (hp : p < vP v) (hw : w < 2) (hs : s < 4) (hz : z ≤ vP v) (h1 : I (45 + 2 * s) 1 = nI z) (hfl : fl = if fou (oth v (I (46 + 2 * s)) z (nI p)) (vP v) 0 = -1 then 1 else 0) (hfu : 200 < fu) :
    ∃ I', smx EC I I' ∧ B_X7_prides_71 fu 0 (nI p) (nI w) (some (45 + 2 * s)) fl fu (mkX q I) 0 (-1) (nI 0) = some (if w = 0 then (fold (pst (cR v p (I (46 + 2 * s)) z) 0) 100 (0, -1)).1 else (fold (pst (cR v p (I (46 + 2 * s)) z) 0) 100 (0, -1)).2, mkX q I') := by
  obtain ⟨hP, hP6⟩ := hR.1
  obtain ⟨I', ⟨s1, -⟩, h⟩ := loop2z (mkX q) (B_X7_prides_71 fu 0 (nI p) (nI w) (some (45 + 2 * s)) fl) (fun k => L_X7_prides_71 k fu 0 (nI p) (nI w) (some (45 + 2 * s)) fl) (fun n => rfl) 100 (pst (cR v p (I (46 + 2 * s)) z) 0) 0 (-1) (fun _ I' => smx (EK 2) I I' ∧ ∀ b, b ≠ p → I' 15 b = I 15 b) (fun ab I' => some (if w = 0 then ab.1 else ab.2, mkX q I')) (by
    intro k I' hi
    unfold L_X7_prides_71 B_X7_prides_147
    rw [if_pos (show (100 : Int32) ≤ nI 100 by decide)]
    rcases (show w = 0 ∨ w = 1 by omega) with rfl | rfl
    · rw [if_pos (show nI 0 = 0 from rfl), if_pos rfl]
    · rw [if_neg (show ¬ nI 1 = 0 by decide), if_neg (by decide)]) (by
    intro k I' j hj hi
    obtain ⟨hi, hr⟩ := hi
    have inv := pst_inv (c := cR v p (I (46 + 2 * s)) z) (s := 0) j (by omega)
    generalize fold (pst (cR v p (I (46 + 2 * s)) z) 0) j (0, -1) = ab at inv ⊢
    have s2 : smx (EK 2) I (up2 I' 15 p (nI j)) := smx_tr hi (smx_up (Or.inr rfl))
    have r2 : ∀ b, b ≠ p → up2 I' 15 p (nI j) 15 b = I 15 b := fun b hb => by rw [up2_j hb]; exact hr b hb
    have sp : cR v p (I (46 + 2 * s)) z j = (decide (fou (oth v (I (46 + 2 * s)) z (nI p)) (vP v) 0 = -1) && !(decide (p < z) && decide (I (46 + 2 * s) p ≠ sBeats (setP v (updf (vPride v) p (nI j))) p))) := ag_split hz hP6 hp (fun i hi => setP_o hi)
    have st : F_X7_store (mkX q I') (some (12 + 3)) (nI p) (nI j) = some (mkX q (up2 I' 15 p (nI j))) := E_s3 eE12 (by omega)
    unfold L_X7_prides_71 B_X7_prides_125 B_X7_prides_130 pst
    rw [if_neg (show ¬ (100 : Int32) ≤ nI j by rw [lit 100]; exact nI_ge hj (by decide)), X_r1, bind_some', E_r3 eE12, bind_some', st, bind_some', nI_1, Nat.zero_add]
    by_cases hA : fou (oth v (I (46 + 2 * s)) z (nI p)) (vP v) 0 = -1
    · rw [if_pos hA] at hfl
      rw [decide_eq_true hA, Bool.true_and] at sp
      have ex : EX (up2 I' 15 p (nI j)) 12 (setP v (updf (vPride v) p (nI j))) := by
        have f : ∀ i, i < 8 → i ≠ 3 → up2 I' 15 p (nI j) (12 + i) = I (12 + i) := fun i hi' hiw => (funext fun b => up2_o (by omega)).trans (hi _ (EK_n (by omega) (by omega) (by omega)))
        have f0 := f 0 (by decide) (by omega)
        obtain ⟨g1, g2, g3, g4, g5⟩ := RX_E hR
        refine ⟨by rw [show (12 : Nat) = 12 + 0 from rfl, f0]; exact g1, by rw [show (12 : Nat) = 12 + 0 from rfl, f0]; exact g2, by rw [show (12 : Nat) = 12 + 0 from rfl, f0]; exact g3, fun i hi' => ?_, fun k' hk => ?_⟩
        · obtain ⟨y1, y2, y3, y4⟩ := g4 i hi'
          rw [f 1 (by omega) (by omega), f 2 (by omega) (by omega), f 4 (by omega) (by omega)]
          refine ⟨y1, y2, ?_, y4⟩
          show up2 I' 15 p (nI j) 15 i = updf (vPride v) p (nI j) i
          rw [up2_row]
          by_cases hip : i = p
          · rw [if_pos hip, hip, updf_s]
          · rw [if_neg hip, updf_o hip, hr i hip]; exact y3
        · rw [f 5 (by omega) (by omega), f 6 (by omega) (by omega), f 7 (by omega) (by omega)]
          exact g5 k' hk
      have x12 : RX q (up2 I' 15 p (nI j)) 12 (setP v (updf (vPride v) p (nI j))) := RX_of hR ex ⟨rfl, rfl⟩ ⟨rfl, rfl, rfl⟩ (fun a h1 h2 => EK_C (by omega) s2 a (EC_n (by omega)))
      obtain ⟨I3, s3, f3⟩ := x_beats (fu := fu) eE12 x12 (okEv_setP hok hj) hp hfu
      have s23 : smx (EK 2) I I3 := smx_tr s2 (smx_wk s3 (fun a ha => Or.inl ha))
      have f45 : I3 (45 + 2 * s) = I (45 + 2 * s) := s23 _ (EK_n (by omega) (by omega) (by omega))
      have f46 : I3 (46 + 2 * s) = I (46 + 2 * s) := s23 _ (EK_n (by omega) (by omega) (by omega))
      refine ⟨I3, ⟨s23, fun b hb => ?_⟩, ?_⟩
      · rw [s3 _ (fun q => by rcases q with ⟨q1, q2⟩ | q <;> omega)]
        exact r2 b hb
      · rw [hfl, if_neg (show ¬ (1 : Int32) = 0 by decide), X_r1, bind_some', E_ob eE12, bind_some', f3, b2_some, S_ob hs, bind_some', x_agrees (z := z) hs (by omega) (by omega) (by rw [f45]; exact h1), b2_some, f46, ← sp]
        by_cases hc : cR v p (I (46 + 2 * s)) z j = true
        · rw [if_pos hc, hc, if_neg bIt]
          by_cases hn : ab.1 = 0
          · rw [if_pos hn, if_pos (inv.mp hn)]
          · rw [if_neg hn, if_neg (fun q => hn (inv.mpr q))]
        · have hc' : cR v p (I (46 + 2 * s)) z j = false := by simpa using hc
          rw [if_neg hc, hc', if_pos bIf]
    · rw [if_neg hA] at hfl
      rw [decide_eq_false hA, Bool.false_and] at sp
      refine ⟨_, ⟨s2, r2⟩, ?_⟩
      rw [hfl, if_pos rfl, if_neg (by rw [sp]; decide)]) I ⟨smx_rf, fun _ _ => rfl⟩ fu (by omega)
  exact ⟨I', EK_C (by omega) s1, h⟩
theorem sme_row {J J' : Nat → Nat → Int32} {r b0 : Nat} {x : Int32} (g1 : ∀ a, a ≠ r → a ≠ 18 → a ≠ 19 → J' a = J a) (g2 : ∀ b, b ≠ b0 → J' r b = J r b) (hx : x = J r b0) : sme [18, 19] J (up2 J' r b0 x) := by
  intro a ha
  have ha : a ≠ 18 ∧ a ≠ 19 := by simp at ha; omega
  funext b
  by_cases h1 : a = r
  · subst h1
    rw [up2_row]
    by_cases hb : b = b0
    · rw [if_pos hb, hb]; exact hx
    · rw [if_neg hb]; exact g2 b hb
  · rw [up2_o h1, g1 a h1 ha.1 ha.2]
theorem m_pridesL {J : Nat → Nat → Int32} {v : Ev} {p w s z fu : Nat} (hM : RM J v) (hp : p < vP v) (hw : w < 2) (hs : s < 4) (hz : z ≤ vP v) (h1 : J 13 s = nI z) (hfu : 200 < fu) :
    ∃ J', sme [18, 19] J J' ∧ B_X8_prides_57 fu 0 (nI s) (nI p) (nI w) (J 3 (2 * p)) fu (mkM J) 0 (-1) (nI 0) = some (if w = 0 then (fold (pst (cR v p (fun i => J 14 (40 * s + i)) z) 0) 100 (0, -1)).1 else (fold (pst (cR v p (fun i => J 14 (40 * s + i)) z) 0) 100 (0, -1)).2, mkM J') := by
  obtain ⟨hP, hP6⟩ := hM.1
  obtain ⟨J', ⟨g1, g2⟩, h⟩ := loop2z mkM (B_X8_prides_57 fu 0 (nI s) (nI p) (nI w) (J 3 (2 * p))) (fun k => L_X8_prides_57 k fu 0 (nI s) (nI p) (nI w) (J 3 (2 * p))) (fun n => rfl) 100 (pst (cR v p (fun i => J 14 (40 * s + i)) z) 0) 0 (-1) (fun _ J' => (∀ a, a ≠ 3 → a ≠ 18 → a ≠ 19 → J' a = J a) ∧ ∀ b, b ≠ 2 * p → J' 3 b = J 3 b) (fun ab J' => some (if w = 0 then ab.1 else ab.2, mkM (up2 J' 3 (2 * p) (J 3 (2 * p))))) (by
    intro k J' hi
    unfold L_X8_prides_57 B_X8_prides_152
    rw [if_pos (show (99 : Int32) < nI 100 by decide), M_r3, bind_some', lit 2, nI_mul, M_p3 (by omega), bind_some']
    rcases (show w = 0 ∨ w = 1 by omega) with rfl | rfl
    · rw [if_pos (show nI 0 = 0 from rfl), if_pos rfl]
    · rw [if_neg (show ¬ nI 1 = 0 by decide), if_neg (by decide)]) (by
    intro k J' j hj hi
    obtain ⟨g1, g2⟩ := hi
    generalize fold (pst (cR v p (fun i => J 14 (40 * s + i)) z) 0) j (0, -1) = ab
    have o : ∀ c, c ≠ 3 → c ≠ 18 → c ≠ 19 → up2 J' 3 (2 * p) (nI j) c = J c := fun c h1 h2 h3 => (funext fun b => up2_o h1).trans (g1 c h1 h2 h3)
    have em : EM (up2 J' 3 (2 * p) (nI j)) (setP v (updf (vPride v) p (nI j))) := by
      obtain ⟨m1, m2, m3, m4, m5⟩ := RM_E hM
      refine ⟨by rw [o 0 (by decide) (by decide) (by decide)]; exact m1, by rw [o 0 (by decide) (by decide) (by decide)]; exact m2, by rw [o 0 (by decide) (by decide) (by decide)]; exact m3, fun i hi => ?_, fun k hk => ?_⟩
      · obtain ⟨z1, z2, z3, z4⟩ := m4 i hi
        rw [o 1 (by decide) (by decide) (by decide), o 2 (by decide) (by decide) (by decide)]
        refine ⟨z1, z2, ?_, ?_⟩
        · show up2 J' 3 (2 * p) (nI j) 3 (2 * i) = updf (vPride v) p (nI j) i
          rw [up2_row]
          by_cases hip : i = p
          · rw [hip, if_pos rfl, updf_s]
          · rw [if_neg (by omega), updf_o hip, g2 _ (by omega)]; exact z3
        · rw [up2_j (by omega), g2 _ (by omega)]; exact z4
      · rw [o 4 (by decide) (by decide) (by decide), o 5 (by decide) (by decide) (by decide), o 6 (by decide) (by decide) (by decide)]
        exact m5 k hk
    have rm : RM (up2 J' 3 (2 * p) (nI j)) (setP v (updf (vPride v) p (nI j))) := RM_of hM em ⟨rfl, rfl⟩ (by rw [o 0 (by decide) (by decide) (by decide)]) (o 9 (by decide) (by decide) (by decide)) (o 8 (by decide) (by decide) (by decide))
    obtain ⟨J3, t3, m3⟩ := m_unlike (fu := fu) rm hs (z := z) hz (by rw [o 13 (by decide) (by decide) (by decide)]; exact h1) hfu
    rw [o 14 (by decide) (by decide) (by decide)] at m3
    refine ⟨J3, ⟨fun c h1 h2 h3 => (t3 c (by simp; omega)).trans (o c h1 h2 h3), fun b hb => by rw [t3 3 (by decide), up2_j hb]; exact g2 b hb⟩, ?_⟩
    unfold L_X8_prides_57 B_X8_prides_88 B_X8_prides_102 B_X8_prides_121 B_X8_prides_123 pst
    rw [if_neg (show ¬ (99 : Int32) < nI j by rw [lit 99]; exact nI_nlt (by omega) (by omega)), M_r3, bind_some', lit 2, nI_mul, M_p3 (by omega), bind_some', M_ob, bind_some', m3, b2_some, nI_1, Nat.zero_add]
    by_cases hc : fou (oth (setP v (updf (vPride v) p (nI j))) (fun i => J 14 (40 * s + i)) z (-1)) z 0 = -1
    · have hc' : cR v p (fun i => J 14 (40 * s + i)) z j = true := decide_eq_true hc
      rw [if_pos hc, if_pos hc', if_neg (show ¬ (1 : Int32) = 0 by decide), if_neg (show ¬ (1 : Int32) = 0 by decide)]
      by_cases hl : ab.2 = -1
      · rw [if_pos hl, if_pos hl]
      · rw [if_neg hl, if_neg hl]
    · have hc' : ¬ cR v p (fun i => J 14 (40 * s + i)) z j = true := fun q => hc (of_decide_eq_true q)
      rw [if_neg hc, if_neg hc', if_pos rfl, if_pos rfl, Int32.add_zero]) J ⟨fun _ _ _ _ => rfl, fun _ _ => rfl⟩ fu (by omega)
  exact ⟨_, sme_row g1 g2 rfl, h⟩
theorem pst_c {c d : Nat → Bool} {s N : Nat} {a : Int32 × Int32} (h : ∀ k, c k = d k) : fold (pst c s) N a = fold (pst d s) N a := by
  rw [show c = d from funext h]
theorem al_prides {fu : Nat} (hfu : 200 < fu) : Al_prides Rel fu := by
  rintro SX SM ⟨q, I, J, v, rfl, rfl, h⟩ a1 a2 a3
  have hM := Rv_M h
  have hok := h.2.2.1
  obtain ⟨hP, hP6⟩ := hM.1
  have no : ∀ x : Int32, ∃ (r : Int32) (SX1 SM1 : Hp), (some (x, mkX q I) : Option (Int32 × Hp)) = some (r, SX1) ∧ (some (x, mkM J) : Option (Int32 × Hp)) = some (r, SM1) ∧ Rel SX1 SM1 := fun x => ⟨x, _, _, rfl, rfl, q, I, J, v, rfl, rfl, h⟩
  have e3 : F_X8_in (mkM J) a3 0 1 = some (bI (inb a3 2), mkM J) := m_in0 (by decide)
  unfold F_X7_prides F_X8_prides B_X7_prides_27
  rw [X_o0, bind_some', M_ob, bind_some']
  cases hb1 : inb a1 4 with
  | false =>
    rw [x_sheetNo hb1, b2_some, X_o0, bind_some', x_refusal3N, b2_some, if_pos rfl, m_sheetNo hb1, b2_some, if_neg (by decide)]
    exact no _
  | true =>
    obtain ⟨s, hs, rfl⟩ := inb_of hb1 (by decide)
    obtain ⟨y1, y2, ⟨z, hz, ez⟩, y4, y5⟩ := h.2.2.2.2.2.2.2.1 s hs
    have ns : ¬ (some (45 + 2 * s) : Option Nat) = none := by simp
    rw [x_sheetAt hs, b2_some, X_o0, bind_some', x_refusal3 h hs, b2_some, if_neg ns, m_sheetWrong hM hs, b2_some]
    by_cases hr : refu J (vP v) s = 0
    · have hzP := refu_0 hr ez hz hP6
      rw [if_pos hr, if_pos hr, M_ob, bind_some', m_isOne hP hP6, b2_some]
      cases hb2 : inb a2 (vP v) with
      | false =>
        rw [if_pos bIf, if_neg (show ¬ false = true by decide), if_neg (show ¬ (-5 : Int32) = 0 by decide)]
        exact no _
      | true =>
        obtain ⟨p, hp, rfl⟩ := inb_of hb2 (by omega)
        rw [if_neg bIt, if_pos rfl, e3, b2_some]
        cases hb3 : inb a3 2 with
        | false =>
          rw [if_pos bIf, if_neg (show ¬ false = true by decide), if_neg (show ¬ (-7 : Int32) = 0 by decide)]
          exact no _
        | true =>
          obtain ⟨w, hw, rfl⟩ := inb_of hb3 (by decide)
          obtain ⟨I2, s2, -, x2, f2⟩ := x_think (fu := fu) h (Or.inl rfl) smx_rf hfu
          have e45 : I2 (45 + 2 * s) = I (45 + 2 * s) := s2 _ (EC_n (by omega))
          have e46 : I2 (46 + 2 * s) = I (46 + 2 * s) := s2 _ (EC_n (by omega))
          obtain ⟨I3, s3, f3⟩ := x_other (x := nI p) (fu := fu) eE12 x2 hok hs hz (by rw [e45]; exact y2.trans ez) hfu
          have s23 : smx EC I I3 := smx_tr s2 (EC_8 (Or.inr rfl) s3)
          have g46 : I3 (46 + 2 * s) = I2 (46 + 2 * s) := s3 _ (E8_sh eE12 (by omega) (by omega))
          obtain ⟨I4, s4, f4⟩ := x_pridesL (w := w) (fu := fu) (fl := if fou (oth v (I2 (46 + 2 * s)) z (nI p)) (vP v) 0 = -1 then 1 else 0) (RX_8 x2 s3 eE12) hok hp hw hs hzP (by rw [s23 _ (EC_n (by omega))]; exact y2.trans ez) (by rw [g46]) hfu
          obtain ⟨J4, t4, m4⟩ := m_pridesL (w := w) (fu := fu) hM hp hw hs hzP ez hfu
          have ef : fold (pst (cR v p (I3 (46 + 2 * s)) z) 0) 100 (0, -1) = fold (pst (cR v p (fun i => J 14 (40 * s + i)) z) 0) 100 (0, -1) :=
            pst_c (fun k => agB_c (fun i hi => by rw [g46, e46]; exact y5 i (by omega)))
          have hR1 : Rel (mkX (qT q) I4) (mkM J4) := ⟨qT q, I4, J4, v, rfl, rfl, Rv_mw2 h ⟨rfl, rfl, rfl, rfl⟩ (smx_tr s23 s4) (sm0_of t4 (by decide))⟩
          rw [ef] at f4
          rw [if_neg bIt, if_pos rfl, if_pos rfl, X_r1, bind_some', X_r0, bind_some', E_ob eE12, bind_some', f2, bind_some', X_r1, bind_some', E_ob eE12, bind_some', f3, b2_some, M_r3, bind_some', lit 2, nI_mul, M_g3 (by omega), bind_some']
          refine ⟨_, _, _, ?_, m4, hR1⟩
          unfold B_X7_prides_60
          by_cases hA : fou (oth v (I2 (46 + 2 * s)) z (nI p)) (vP v) 0 = -1
          · rw [if_pos hA] at f4 ⊢
            exact f4
          · rw [if_neg hA] at f4 ⊢
            exact f4
    · rw [if_neg hr, if_neg hr, if_neg hr]
      exact no _
