/-! of which kind one is -/
def kmOf (v : Ev) (p w : Nat) (y : Int32) : Ev := (vP v, vW v, vDay v, (if w = 0 then updf (vKind v) p y else vKind v), (if w = 0 then vMore v else updf (vMore v) p y), vPride v, vName v, vDo v, vWt v, vSw v, vCode v, vBnd v)
def kmN (w : Nat) : Nat := if w = 0 then 6 else 10
def cK (v : Ev) (p w : Nat) (cell : Nat → Int32) (z k : Nat) : Bool := agB (kmOf v p w (nI k)) cell z
def knf (c : Nat → Bool) (k : Nat) (s : Int32) : Int32 := s ||| (if c k then (1 : Int32) <<< (nI k &&& 31) else 0)
theorem okEv_km {v : Ev} {p w j : Nat} (h : okEv v) (hj : j < kmN w) : okEv (kmOf v p w (nI j)) := by
  refine ⟨fun i hi => ?_, h.2⟩
  obtain ⟨h1, h2, h3⟩ := h.1 i hi
  unfold kmN at hj
  by_cases hw : w = 0
  · rw [if_pos hw] at hj
    refine ⟨?_, ?_, h3⟩
    · show ∃ k, k < 6 ∧ (if w = 0 then updf (vKind v) p (nI j) else vKind v) i = nI k
      rw [if_pos hw]
      by_cases hip : i = p
      · rw [hip, updf_s]; exact ⟨j, hj, rfl⟩
      · rw [updf_o hip]; exact h1
    · show ∃ k, k < 10 ∧ (if w = 0 then vMore v else updf (vMore v) p (nI j)) i = nI k
      rw [if_pos hw]
      exact h2
  · rw [if_neg hw] at hj
    refine ⟨?_, ?_, h3⟩
    · show ∃ k, k < 6 ∧ (if w = 0 then updf (vKind v) p (nI j) else vKind v) i = nI k
      rw [if_neg hw]
      exact h1
    · show ∃ k, k < 10 ∧ (if w = 0 then vMore v else updf (vMore v) p (nI j)) i = nI k
      rw [if_neg hw]
      by_cases hip : i = p
      · rw [hip, updf_s]; exact ⟨j, hj, rfl⟩
      · rw [updf_o hip]; exact h2
theorem km_o {v : Ev} {p w i : Nat} {y : Int32} (hi : i ≠ p) : sBeats (kmOf v p w y) i = sBeats v i := by
  refine sBeats_o rfl rfl ?_ ?_ rfl rfl rfl rfl rfl rfl
  · show (if w = 0 then updf (vKind v) p y else vKind v) i = vKind v i
    split
    · exact updf_o hi
    · rfl
  · show (if w = 0 then vMore v else updf (vMore v) p y) i = vMore v i
    split
    · rfl
    · exact updf_o hi
theorem agB_c {v : Ev} {cx cm : Nat → Int32} {z : Nat} (hc : ∀ i, i < z → cx i = cm i) : agB v cx z = agB v cm z := by
  have e1 : oth v cx z (-1) = oth v cm z (-1) := by
    funext i
    unfold oth
    by_cases hi : i < z
    · rw [hc i hi]
    · rw [decide_eq_false hi, Bool.false_and, Bool.false_and]
  unfold agB
  rw [e1]
def EK (w a : Nat) : Prop := E8 12 a ∨ a = 13 + w
theorem EK_C {w : Nat} {I I' : Nat → Nat → Int32} (hw : w < 5) (h : smx (EK w) I I') : smx EC I I' := smx_wk h (fun a ha => by
  rcases ha with (h | h) | h
  · exact Or.inr (Or.inr (Or.inr h))
  · exact Or.inl (by omega)
  · exact Or.inl (by omega))
theorem EK_n {w a : Nat} (h : a < 20 ∨ (21 ≤ a ∧ a ≤ 52)) (hw : a ≠ 13 + w) (h2 : a ≠ 20) : ¬ EK w a := fun q => by
  rcases q with (⟨q1, q2⟩ | q) | q <;> omega
theorem EX_km {q : Xp} {I I' : Nat → Nat → Int32} {v : Ev} {p w : Nat} {y : Int32} (hE : EX I 12 v) (hw : w < 2) (hs : smx (EK w) I I') (hr : ∀ b, b ≠ p → I' (13 + w) b = I (13 + w) b) : EX (up2 I' (13 + w) p y) 12 (kmOf v p w y) := by
  have f : ∀ i, i < 8 → i ≠ w + 1 → up2 I' (13 + w) p y (12 + i) = I (12 + i) := fun i hi hiw => (funext fun b => up2_o (by omega)).trans (hs _ (EK_n (by omega) (by omega) (by omega)))
  have f0 := f 0 (by decide) (by omega)
  obtain ⟨g1, g2, g3, g4, g5⟩ := hE
  refine ⟨by rw [show (12 : Nat) = 12 + 0 from rfl, f0]; exact g1, by rw [show (12 : Nat) = 12 + 0 from rfl, f0]; exact g2, by rw [show (12 : Nat) = 12 + 0 from rfl, f0]; exact g3, fun i hi => ?_, fun k hk => ?_⟩
  · obtain ⟨y1, y2, y3, y4⟩ := g4 i hi
    rw [f 3 (by omega) (by omega), f 4 (by omega) (by omega)]
    have row : ∀ R, I (13 + w) i = R → up2 I' (13 + w) p y (13 + w) i = if i = p then y else R := fun R hR => by
      rw [up2_row]
      by_cases hip : i = p
      · rw [if_pos hip, if_pos hip]
      · rw [if_neg hip, if_neg hip, hr i hip, hR]
    rcases (show w = 0 ∨ w = 1 by omega) with rfl | rfl
    · rw [f 2 (by omega) (by omega)]
      exact ⟨row _ y1, y2, y3, y4⟩
    · rw [f 1 (by omega) (by omega)]
      exact ⟨y1, row _ y2, y3, y4⟩
  · rw [f 5 (by omega) (by omega), f 6 (by omega) (by omega), f 7 (by omega) (by omega)]
    exact g5 k hk
theorem x_kindsL {q : Xp} {I : Nat → Nat → Int32} {v : Ev} {p w s z fu : Nat} {fl : Int32} (hR : RX q I 12 v) (hok : okEv v) (hp : p < vP v) (hw : w < 2) (hs : s < 4) (hz : z ≤ vP v) (h1 : I (45 + 2 * s) 1 = nI z) (hfl : fl = if fou (oth v (I (46 + 2 * s)) z (nI p)) (vP v) 0 = -1 then 1 else 0) (hfu : 200 < fu) :
    ∃ I', smx EC I I' ∧ B_X7_kinds_104 fu 0 (nI p) (some (45 + 2 * s)) (some (13 + w)) (nI (kmN w)) fl fu (mkX q I) 0 (nI 0) = some (fold (knf (cK v p w (I (46 + 2 * s)) z)) (kmN w) 0, mkX q I') := by
  obtain ⟨hP, hP6⟩ := hR.1
  have hN : kmN w ≤ 10 := by
    unfold kmN
    split <;> omega
  obtain ⟨I', ⟨s1, -⟩, h⟩ := loop1z (mkX q) (B_X7_kinds_104 fu 0 (nI p) (some (45 + 2 * s)) (some (13 + w)) (nI (kmN w)) fl) (fun k => L_X7_kinds_104 k fu 0 (nI p) (some (45 + 2 * s)) (some (13 + w)) (nI (kmN w)) fl) (fun n => rfl) (kmN w) (knf (cK v p w (I (46 + 2 * s)) z)) 0 (fun _ I' => smx (EK w) I I' ∧ ∀ b, b ≠ p → I' (13 + w) b = I (13 + w) b) (fun a I' => some (a, mkX q I')) (by
    intro k I' hi
    unfold L_X7_kinds_104
    rw [if_pos (nI_le (Nat.le_refl _) (by omega))]) (by
    intro k I' j hj hi
    obtain ⟨hi, hr⟩ := hi
    generalize fold (knf (cK v p w (I (46 + 2 * s)) z)) j 0 = a
    have st : F_X7_store (mkX q I') (some (13 + w)) (nI p) (nI j) = some (mkX q (up2 I' (13 + w) p (nI j))) := X_st 6 (by omega) (by rcases (show w = 0 ∨ w = 1 by omega) with rfl | rfl <;> rfl) (by omega) (by decide)
    have s2 : smx (EK w) I (up2 I' (13 + w) p (nI j)) := smx_tr hi (smx_up (Or.inr rfl))
    have r2 : ∀ b, b ≠ p → up2 I' (13 + w) p (nI j) (13 + w) b = I (13 + w) b := fun b hb => by rw [up2_j hb]; exact hr b hb
    have sp : cK v p w (I (46 + 2 * s)) z j = (decide (fou (oth v (I (46 + 2 * s)) z (nI p)) (vP v) 0 = -1) && !(decide (p < z) && decide (I (46 + 2 * s) p ≠ sBeats (kmOf v p w (nI j)) p))) := ag_split hz hP6 hp (fun i hi => km_o hi)
    unfold L_X7_kinds_104 B_X7_kinds_150 knf
    rw [if_neg (nI_ge hj (by omega)), st, bind_some', nI_1]
    by_cases hA : fou (oth v (I (46 + 2 * s)) z (nI p)) (vP v) 0 = -1
    · rw [if_pos hA] at hfl
      rw [decide_eq_true hA, Bool.true_and] at sp
      have x12 : RX q (up2 I' (13 + w) p (nI j)) 12 (kmOf v p w (nI j)) := RX_of hR (EX_km (q := q) (RX_E hR) hw hi hr) ⟨rfl, rfl⟩ ⟨rfl, rfl, rfl⟩ (fun a h1 h2 => EK_C (by omega) s2 a (EC_n (by omega)))
      obtain ⟨I3, s3, f3⟩ := x_beats (fu := fu) eE12 x12 (okEv_km hok hj) hp hfu
      have s23 : smx (EK w) I I3 := smx_tr s2 (smx_wk s3 (fun a ha => Or.inl ha))
      have f45 : I3 (45 + 2 * s) = I (45 + 2 * s) := s23 _ (EK_n (by omega) (by omega) (by omega))
      have f46 : I3 (46 + 2 * s) = I (46 + 2 * s) := s23 _ (EK_n (by omega) (by omega) (by omega))
      refine ⟨I3, ⟨s23, fun b hb => ?_⟩, ?_⟩
      · rw [s3 _ (fun q => by rcases q with ⟨q1, q2⟩ | q <;> omega)]
        exact r2 b hb
      · rw [hfl, if_neg (show ¬ (1 : Int32) = 0 by decide), X_r1, bind_some', E_ob eE12, bind_some', f3, b2_some, S_ob hs, bind_some', x_agrees (z := z) hs (by omega) (by omega) (by rw [f45]; exact h1), b2_some, f46, ← sp]
        by_cases hc : cK v p w (I (46 + 2 * s)) z j = true
        · rw [if_pos hc, hc, if_neg bIt]
        · have hc' : cK v p w (I (46 + 2 * s)) z j = false := by simpa using hc
          rw [if_neg hc, hc', if_pos bIf, Int32.or_zero]
    · rw [if_neg hA] at hfl
      rw [decide_eq_false hA, Bool.false_and] at sp
      refine ⟨_, ⟨s2, r2⟩, ?_⟩
      rw [hfl, if_pos rfl, if_neg (by rw [sp]; decide), Int32.or_zero]) I ⟨smx_rf, fun _ _ => rfl⟩ fu (by omega)
  exact ⟨I', EK_C (by omega) s1, h⟩
def PZ (J J' : Nat → Nat → Int32) (p : Nat) : Prop := (∀ a, a ≠ 1 → a ≠ 2 → a ≠ 18 → a ≠ 19 → J' a = J a) ∧ ∀ b, b ≠ p → J' 1 b = J 1 b ∧ J' 2 b = J 2 b
theorem m_kindsL {J : Nat → Nat → Int32} {v : Ev} {p w s z fu : Nat} (hM : RM J v) (hok : okEv v) (hp : p < vP v) (hw : w < 2) (hs : s < 4) (hz : z ≤ vP v) (h1 : J 13 s = nI z) (hfu : 200 < fu) :
    ∃ J', sme [18, 19] J J' ∧ B_X8_kinds_60 fu 0 (nI s) (nI p) (nI w) (J 1 p) (J 2 p) fu (mkM J) 0 (nI 0) = some (fold (knf (cK v p w (fun i => J 14 (40 * s + i)) z)) (kmN w) 0, mkM J') := by
  obtain ⟨hP, hP6⟩ := hM.1
  have hN : kmN w ≤ 10 := by
    unfold kmN
    split <;> omega
  have e60 : ∀ (k : Hp → Int32 → Int32 → Option (Int32 × Hp)) (S : Hp) (a b : Int32), L_X8_kinds_60 k fu 0 (nI s) (nI p) (nI w) (J 1 p) (J 2 p) S a b = B_X8_kinds_73 k fu 0 S (nI s) (nI p) (nI w) (J 1 p) (J 2 p) a b (nI (kmN w)) b := by
    intro k S a b
    unfold L_X8_kinds_60 kmN
    rcases (show w = 0 ∨ w = 1 by omega) with rfl | rfl
    · rw [if_pos (show nI 0 = 0 from rfl), if_pos rfl]; rfl
    · rw [if_neg (show ¬ nI 1 = 0 by decide), if_neg (by decide)]; rfl
  obtain ⟨J', hJ, h⟩ := loop1z mkM (B_X8_kinds_60 fu 0 (nI s) (nI p) (nI w) (J 1 p) (J 2 p)) (fun k => L_X8_kinds_60 k fu 0 (nI s) (nI p) (nI w) (J 1 p) (J 2 p)) (fun n => rfl) (kmN w) (knf (cK v p w (fun i => J 14 (40 * s + i)) z)) 0 (fun _ J' => PZ J J' p) (fun a J' => some (a, mkM (up2 (up2 J' 1 p (J 1 p)) 2 p (J 2 p)))) (by
    intro k J' hi
    rw [e60]
    unfold B_X8_kinds_73
    rw [if_pos (nI_le (Nat.le_refl _) (by omega)), M_r1, bind_some', M_p1 (by omega), bind_some', M_r2, bind_some', M_p2 (by omega), bind_some']) (by
    intro k J' j hj hi
    obtain ⟨g1, g2⟩ := hi
    generalize fold (knf (cK v p w (fun i => J 14 (40 * s + i)) z)) j 0 = a
    rw [e60]
    unfold B_X8_kinds_73 B_X8_kinds_92 B_X8_kinds_110 B_X8_kinds_130
    have fin : ∀ y1 y2 : Int32, (y1 = if w = 0 then nI j else J 1 p) → (y2 = if w = 0 then J 2 p else nI j) → ∃ J'', PZ J J'' p ∧ (aP (mkM (up2 J' 1 p y1)) (some 2) (nI p) y2).bind (fun S110 => (ob S110 6 (some 0)).bind fun _ => b2 (F_X8_unlike fu S110 0 (nI s)) fun v115 S115 => if v115 = -1 then k S115 (a ||| 1 <<< (nI j &&& 31)) (nI j + 1) else k S115 (a ||| 0) (nI j + 1)) = k (mkM J'') (knf (cK v p w (fun i => J 14 (40 * s + i)) z) j a) (nI (j + 1)) := by
      intro y1 y2 hy1 hy2
      have em : EM (up2 (up2 J' 1 p y1) 2 p y2) (kmOf v p w (nI j)) := by
        obtain ⟨m1, m2, m3, m4, m5⟩ := RM_E hM
        have o : ∀ c, c ≠ 1 → c ≠ 2 → c ≠ 18 → c ≠ 19 → up2 (up2 J' 1 p y1) 2 p y2 c = J c := fun c h1 h2 h3 h4 => (funext fun b => by rw [up2_o h2, up2_o h1]).trans (g1 c h1 h2 h3 h4)
        refine ⟨by rw [o 0 (by decide) (by decide) (by decide) (by decide)]; exact m1, by rw [o 0 (by decide) (by decide) (by decide) (by decide)]; exact m2, by rw [o 0 (by decide) (by decide) (by decide) (by decide)]; exact m3, fun i hi => ?_, fun k hk => ?_⟩
        · obtain ⟨z1, z2, z3⟩ := m4 i hi
          rw [o 3 (by decide) (by decide) (by decide) (by decide)]
          have row1 : up2 (up2 J' 1 p y1) 2 p y2 1 i = if i = p then y1 else vKind v i := by
            rw [up2_o (by decide), up2_row]
            by_cases hip : i = p
            · rw [if_pos hip, if_pos hip]
            · rw [if_neg hip, if_neg hip, (g2 i hip).1]; exact z1
          have row2 : up2 (up2 J' 1 p y1) 2 p y2 2 i = if i = p then y2 else vMore v i := by
            rw [up2_row]
            by_cases hip : i = p
            · rw [if_pos hip, if_pos hip]
            · rw [if_neg hip, if_neg hip, up2_o (by decide), (g2 i hip).2]; exact z2
          have p1 := (RM_p hM hp).1
          have p2 := (RM_p hM hp).2.1
          refine ⟨row1.trans ?_, row2.trans ?_, z3⟩
          · show _ = (if w = 0 then updf (vKind v) p (nI j) else vKind v) i
            rw [hy1]
            by_cases hw0 : w = 0
            · rw [if_pos hw0, if_pos hw0]; rfl
            · rw [if_neg hw0, if_neg hw0]
              by_cases hip : i = p
              · rw [if_pos hip, hip]; exact p1
              · rw [if_neg hip]
          · show _ = (if w = 0 then vMore v else updf (vMore v) p (nI j)) i
            rw [hy2]
            by_cases hw0 : w = 0
            · rw [if_pos hw0, if_pos hw0]
              by_cases hip : i = p
              · rw [if_pos hip, hip]; exact p2
              · rw [if_neg hip]
            · rw [if_neg hw0, if_neg hw0]; rfl
        · rw [o 4 (by decide) (by decide) (by decide) (by decide), o 5 (by decide) (by decide) (by decide) (by decide), o 6 (by decide) (by decide) (by decide) (by decide)]
          exact m5 k hk
      have o : ∀ c, c ≠ 1 → c ≠ 2 → c ≠ 18 → c ≠ 19 → up2 (up2 J' 1 p y1) 2 p y2 c = J c := fun c h1 h2 h3 h4 => (funext fun b => by rw [up2_o h2, up2_o h1]).trans (g1 c h1 h2 h3 h4)
      have rm : RM (up2 (up2 J' 1 p y1) 2 p y2) (kmOf v p w (nI j)) := RM_of hM em ⟨rfl, rfl⟩ (by rw [o 0 (by decide) (by decide) (by decide) (by decide)]) (o 9 (by decide) (by decide) (by decide) (by decide)) (o 8 (by decide) (by decide) (by decide) (by decide))
      obtain ⟨J3, t3, m3⟩ := m_unlike (fu := fu) rm hs (z := z) hz (by rw [o 13 (by decide) (by decide) (by decide) (by decide)]; exact h1) hfu
      rw [o 14 (by decide) (by decide) (by decide) (by decide)] at m3
      refine ⟨J3, ⟨fun c h1 h2 h3 h4 => (t3 c (by simp; omega)).trans (o c h1 h2 h3 h4), fun b hb => ?_⟩, ?_⟩
      · rw [t3 1 (by decide), t3 2 (by decide), up2_o (by decide), up2_j hb, up2_j hb, up2_o (by decide)]
        exact g2 b hb
      · rw [M_p2 (by omega), bind_some', M_ob, bind_some', m3, b2_some, nI_1]
        unfold knf
        by_cases hc : fou (oth (kmOf v p w (nI j)) (fun i => J 14 (40 * s + i)) z (-1)) z 0 = -1
        · have hc' : cK v p w (fun i => J 14 (40 * s + i)) z j = true := decide_eq_true hc
          rw [if_pos hc, if_pos hc']
        · have hc' : ¬ cK v p w (fun i => J 14 (40 * s + i)) z j = true := fun q => hc (of_decide_eq_true q)
          rw [if_neg hc, if_neg hc']
    rw [if_neg (nI_ge hj (by omega)), M_r1, bind_some']
    rcases (show w = 0 ∨ w = 1 by omega) with rfl | rfl
    · rw [if_pos (show nI 0 = 0 from rfl), M_p1 (by omega), bind_some', M_r2, bind_some', if_neg (show ¬ nI 0 = 1 by decide)]
      exact fin (nI j) (J 2 p) rfl rfl
    · rw [if_neg (show ¬ nI 1 = 0 by decide), M_p1 (by omega), bind_some', M_r2, bind_some', if_pos (show nI 1 = 1 from rfl)]
      exact fin (J 1 p) (nI j) rfl rfl) J ⟨fun _ _ _ _ _ => rfl, fun _ _ => ⟨rfl, rfl⟩⟩ fu (by omega)
  obtain ⟨g1, g2⟩ := hJ
  refine ⟨_, fun a ha => ?_, h⟩
  have ha : a ≠ 18 ∧ a ≠ 19 := by simp at ha; omega
  funext b
  by_cases h1 : a = 1
  · subst h1
    rw [up2_o (by decide), up2_row]
    by_cases hb : b = p
    · rw [if_pos hb, hb]
    · rw [if_neg hb]; exact (g2 b hb).1
  · by_cases h2 : a = 2
    · subst h2
      rw [up2_row]
      by_cases hb : b = p
      · rw [if_pos hb, hb]
      · rw [if_neg hb, up2_o (by decide)]; exact (g2 b hb).2
    · rw [up2_o h2, up2_o h1, g1 a h1 h2 ha.1 ha.2]
theorem al_kinds {fu : Nat} (hfu : 200 < fu) : Al_kinds Rel fu := by
  rintro SX SM ⟨q, I, J, v, rfl, rfl, h⟩ a1 a2 a3
  have hM := Rv_M h
  have hok := h.2.2.1
  obtain ⟨hP, hP6⟩ := hM.1
  have no : ∀ x : Int32, ∃ (r : Int32) (SX1 SM1 : Hp), (some (x, mkX q I) : Option (Int32 × Hp)) = some (r, SX1) ∧ (some (x, mkM J) : Option (Int32 × Hp)) = some (r, SM1) ∧ Rel SX1 SM1 := fun x => ⟨x, _, _, rfl, rfl, q, I, J, v, rfl, rfl, h⟩
  have e3 : F_X8_in (mkM J) a3 0 1 = some (bI (inb a3 2), mkM J) := m_in0 (by decide)
  unfold F_X7_kinds F_X8_kinds B_X7_kinds_27
  rw [X_o0, bind_some', M_ob, bind_some']
  cases hb1 : inb a1 4 with
  | false =>
    rw [x_sheetNo hb1, b2_some, X_o0, bind_some', x_refusal3N, b2_some, if_pos rfl, m_sheetNo hb1, b2_some, if_neg (by decide)]
    exact no _
  | true =>
    obtain ⟨s, hs, rfl⟩ := inb_of hb1 (by decide)
    obtain ⟨y1, y2, ⟨z, hz, ez⟩, y4, y5⟩ := h.2.2.2.2.2.2.2.1 s hs
    have ns : ¬ (some (45 + 2 * s) : Option Nat) = none := by simp
    rw [x_sheetAt hs, b2_some, X_o0, bind_some', x_refusal3 h hs, b2_some, if_neg ns, m_sheetWrong hM hs, b2_some]
    by_cases hr : refu J (vP v) s = 0
    · have hzP := refu_0 hr ez hz hP6
      rw [if_pos hr, if_pos hr, M_ob, bind_some', m_isOne hP hP6, b2_some]
      cases hb2 : inb a2 (vP v) with
      | false =>
        rw [if_pos bIf, if_neg (show ¬ false = true by decide), if_neg (show ¬ (-5 : Int32) = 0 by decide)]
        exact no _
      | true =>
        obtain ⟨p, hp, rfl⟩ := inb_of hb2 (by omega)
        rw [if_neg bIt, if_pos rfl, e3, b2_some]
        cases hb3 : inb a3 2 with
        | false =>
          rw [if_pos bIf, if_neg (show ¬ false = true by decide), if_neg (show ¬ (-7 : Int32) = 0 by decide)]
          exact no _
        | true =>
          obtain ⟨w, hw, rfl⟩ := inb_of hb3 (by decide)
          obtain ⟨I2, s2, -, x2, f2⟩ := x_think (fu := fu) h (Or.inl rfl) smx_rf hfu
          have e45 : I2 (45 + 2 * s) = I (45 + 2 * s) := s2 _ (EC_n (by omega))
          have e46 : I2 (46 + 2 * s) = I (46 + 2 * s) := s2 _ (EC_n (by omega))
          obtain ⟨I3, s3, f3⟩ := x_other (x := nI p) (fu := fu) eE12 x2 hok hs hz (by rw [e45]; exact y2.trans ez) hfu
          have s23 : smx EC I I3 := smx_tr s2 (EC_8 (Or.inr rfl) s3)
          have g46 : I3 (46 + 2 * s) = I2 (46 + 2 * s) := s3 _ (E8_sh eE12 (by omega) (by omega))
          obtain ⟨I4, s4, f4⟩ := x_kindsL (w := w) (fu := fu) (fl := if fou (oth v (I2 (46 + 2 * s)) z (nI p)) (vP v) 0 = -1 then 1 else 0) (RX_8 x2 s3 eE12) hok hp hw hs hzP (by rw [s23 _ (EC_n (by omega))]; exact y2.trans ez) (by rw [g46]) hfu
          obtain ⟨J4, t4, m4⟩ := m_kindsL (w := w) (fu := fu) hM hok hp hw hs hzP ez hfu
          have ef : fold (knf (cK v p w (I3 (46 + 2 * s)) z)) (kmN w) 0 = fold (knf (cK v p w (fun i => J 14 (40 * s + i)) z)) (kmN w) 0 := by
            refine fold_congr _ _ (fun k _ b => ?_)
            have : cK v p w (I3 (46 + 2 * s)) z k = cK v p w (fun i => J 14 (40 * s + i)) z k := agB_c (fun i hi => by rw [g46, e46]; exact y5 i (by omega))
            unfold knf
            rw [this]
          have hR1 : Rel (mkX (qT q) I4) (mkM J4) := ⟨qT q, I4, J4, v, rfl, rfl, Rv_mw2 h ⟨rfl, rfl, rfl, rfl⟩ (smx_tr s23 s4) (sm0_of t4 (by decide))⟩
          rw [ef] at f4
          rw [if_neg bIt, if_pos rfl, if_pos rfl, X_r1, bind_some', X_r0, bind_some', E_ob eE12, bind_some', f2, bind_some', M_r1, bind_some', M_g1 (by omega), bind_some', M_r2, bind_some', M_g2 (by omega), bind_some']
          refine ⟨_, _, _, ?_, m4, hR1⟩
          unfold B_X7_kinds_62 B_X7_kinds_75 B_X7_kinds_96
          rcases (show w = 0 ∨ w = 1 by omega) with rfl | rfl
          · rw [if_pos (show nI 0 = 0 from rfl), X_r1, bind_some', E_r1 eE12, bind_some', if_pos (show nI 0 = 0 from rfl), bind_some', E_ob eE12, bind_some', f3, b2_some]
            by_cases hA : fou (oth v (I2 (46 + 2 * s)) z (nI p)) (vP v) 0 = -1
            · rw [if_pos hA] at f4 ⊢
              exact f4
            · rw [if_neg hA] at f4 ⊢
              exact f4
          · rw [if_neg (show ¬ nI 1 = 0 by decide), X_r1, bind_some', E_r2 eE12, bind_some', if_neg (show ¬ nI 1 = 0 by decide), bind_some', E_ob eE12, bind_some', f3, b2_some]
            by_cases hA : fou (oth v (I2 (46 + 2 * s)) z (nI p)) (vP v) 0 = -1
            · rw [if_pos hA] at f4 ⊢
              exact f4
            · rw [if_neg hA] at f4 ⊢
              exact f4
    · rw [if_neg hr, if_neg hr, if_neg hr]
      exact no _
