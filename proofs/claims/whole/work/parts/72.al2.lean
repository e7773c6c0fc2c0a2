/-! laws and references -/
theorem evR_l {e j : Nat} {l : Option Nat} : evR e l j = if j = 11 then l else evR e none j := by
  match j with
  | 0 => rfl
  | 1 => rfl
  | 2 => rfl
  | 3 => rfl
  | 4 => rfl
  | 5 => rfl
  | 6 => rfl
  | 7 => rfl
  | 8 => rfl
  | 9 => rfl
  | 10 => rfl
  | 11 => rfl
  | 12 => rfl
  | 13 => rfl
  | 14 => rfl
  | n + 15 => rw [if_neg (by omega)]; rfl
def setL (q : Xp) (e : Nat) (l : Option Nat) : Xp := if e = 1 then (q.1, (q.2.1, (l, (q.2.2.2.1, q.2.2.2.2)))) else if e = 12 then (q.1, (q.2.1, (q.2.2.1, (l, q.2.2.2.2)))) else (q.1, (q.2.1, (q.2.2.1, (q.2.2.2.1, l))))
theorem rvX_setL {q : Xp} {e : Nat} {l : Option Nat} (he : isE e) : up2 (rvX q) e 11 l = rvX (setL q e l) := by
  funext k j
  unfold up2
  rcases he with rfl | rfl | rfl
  · show (if k = 1 ∧ j = 11 then l else rvX q k j) = rvX (q.1, (q.2.1, (l, (q.2.2.2.1, q.2.2.2.2)))) k j
    unfold rvX
    by_cases h0 : k = 0
    · rw [if_neg (by omega), if_pos h0, if_pos h0]
    by_cases h1 : k = 1
    · rw [if_neg h0, if_pos h1, if_neg h0, if_pos h1, evR_l (l := q.2.2.1), evR_l (l := l)]
      by_cases hj : j = 11
      · rw [if_pos ⟨h1, hj⟩, if_pos hj]
      · rw [if_neg (fun q => hj q.2), if_neg hj, if_neg hj]
    rw [if_neg (fun q => h1 q.1), if_neg h0, if_neg h0, if_neg h1, if_neg h1]
  · show (if k = 12 ∧ j = 11 then l else rvX q k j) = rvX (q.1, (q.2.1, (q.2.2.1, (l, q.2.2.2.2)))) k j
    unfold rvX
    by_cases h0 : k = 0
    · rw [if_neg (by omega), if_pos h0, if_pos h0]
    by_cases h1 : k = 1
    · rw [if_neg (by omega), if_neg h0, if_pos h1, if_neg h0, if_pos h1]
    by_cases h2 : k = 12
    · rw [if_neg h0, if_neg h1, if_pos h2, if_neg h0, if_neg h1, if_pos h2, evR_l (l := q.2.2.2.1), evR_l (l := l)]
      by_cases hj : j = 11
      · rw [if_pos ⟨h2, hj⟩, if_pos hj]
      · rw [if_neg (fun q => hj q.2), if_neg hj, if_neg hj]
    rw [if_neg (fun q => h2 q.1), if_neg h0, if_neg h0, if_neg h1, if_neg h1, if_neg h2, if_neg h2]
  · show (if k = 23 ∧ j = 11 then l else rvX q k j) = rvX (q.1, (q.2.1, (q.2.2.1, (q.2.2.2.1, l)))) k j
    unfold rvX
    by_cases h0 : k = 0
    · rw [if_neg (by omega), if_pos h0, if_pos h0]
    by_cases h1 : k = 1
    · rw [if_neg (by omega), if_neg h0, if_pos h1, if_neg h0, if_pos h1]
    by_cases h2 : k = 12
    · rw [if_neg (by omega), if_neg h0, if_neg h1, if_pos h2, if_neg h0, if_neg h1, if_pos h2]
    by_cases h3 : k = 23
    · rw [if_neg h0, if_neg h1, if_neg h2, if_pos h3, if_neg h0, if_neg h1, if_neg h2, if_pos h3, evR_l (l := q.2.2.2.2), evR_l (l := l)]
      by_cases hj : j = 11
      · rw [if_pos ⟨h3, hj⟩, if_pos hj]
      · rw [if_neg (fun q => hj q.2), if_neg hj, if_neg hj]
    rw [if_neg (fun q => h3 q.1), if_neg h0, if_neg h0, if_neg h1, if_neg h1, if_neg h2, if_neg h2, if_neg h3, if_neg h3]
theorem shX_setL {q : Xp} {e : Nat} {l : Option Nat} (he : isE e) : shX (setL q e l) = shX q := by rcases he with rfl | rfl | rfl <;> rfl
theorem setL_1 {q : Xp} {e : Nat} {l : Option Nat} (he : isE e) : (setL q e l).1 = q.1 ∧ (setL q e l).2.1 = q.2.1 ∧ lawR (setL q e l) e = l := by rcases he with rfl | rfl | rfl <;> exact ⟨rfl, rfl, rfl⟩
theorem X_o0 {q : Xp} {I : Nat → Nat → Int32} : ob (mkX q I) 5 (some 0) = some 0 := X_ob (by decide) rfl
theorem X_o42 {q : Xp} {I : Nat → Nat → Int32} : ob (mkX q I) 8 (some 42) = some 42 := X_ob (by decide) rfl
theorem E_pR {q : Xp} {I : Nat → Nat → Int32} {e : Nat} {l : Option Nat} (he : isE e) (hl : okRb (mkX q I) l = true) : pR (mkX q I) (some e) 0 11 l = some (mkX (setL q e l) I) := by
  unfold pR
  rw [E_ob he, bind_some', if_pos hl]
  show some (53 + 4 * q.1, shX q, I, up2 (rvX q) e 11 l) = some (53 + 4 * (setL q e l).1, shX (setL q e l), I, rvX (setL q e l))
  rw [rvX_setL he, shX_setL he, (setL_1 he).1]
theorem X_text {q : Xp} {I : Nat → Nat → Int32} {t : Nat} (ht : t < q.1) (h6 : q.1 ≤ 6) : F_X7_textAt (mkX q I) 0 (nI t) = some (some (53 + 4 * t), mkX q I) := by
  unfold F_X7_textAt B_X7_textAt_23
  rw [if_neg (nI_pos (by omega)), X_r6, bind_some']
  have e1 : aL (mkX q I) (some 42) 8 = some (nI 6) := by
    unfold aL
    rw [X_o42]
    rfl
  rw [e1, bind_some', if_neg (nI_ge (by omega) (by decide)), bind_some']
  have e2 : rG (mkX q I) (some 42) 8 (nI t) = some (some (53 + 4 * t)) := by
    unfold rG
    rw [X_o42, bind_some']
    show (if inb (nI t) 6 = true then some (rvX q 42 (nI t).toNatClampNeg) else none) = _
    rw [if_pos (inb_nI (by omega) (by decide)), nI_clamp (by omega)]
    show some (if t < q.1 then some (53 + 4 * t) else none) = _
    rw [if_pos ht]
  rw [e2, bind_some']
theorem okR_t {q : Xp} {I : Nat → Nat → Int32} {t : Nat} (ht : t < q.1) : okRb (mkX q I) (some (53 + 4 * t)) = true := by
  show decide (53 + 4 * t < 53 + 4 * q.1) = true
  exact decide_eq_true (by omega)
def setLaw (v : Ev) (c : Nat → Int32) (b : Nat → Nat) : Ev := (vP v, vW v, vDay v, vKind v, vMore v, vPride v, vName v, vDo v, vWt v, vSw v, c, b)
theorem al_force {fu : Nat} : Al_force Rel fu := by
  rintro SX SM ⟨q, I, J, v, rfl, rfl, h⟩ a1
  obtain ⟨r, c1, c2, c3, c4⟩ := h.2.2.2.2.1
  obtain ⟨t1, t2, t3, t4, t5⟩ := h.2.2.2.2.2.1
  unfold F_X7_force F_X8_force
  rw [X_g0, bind_some', t3, x_fits (by omega), b2_some, M_gI, bind_some', t4, m_in, in0 (by omega), b2_some]
  cases hb : inb a1 q.1 with
  | false => exact ⟨-2, _, _, by rw [if_pos bIf], by rw [if_pos bIf], q, I, J, v, rfl, rfl, h⟩
  | true =>
    obtain ⟨t, ht, rfl⟩ := inb_of hb (by omega)
    obtain ⟨c, b, hcb⟩ := t5 t ht
    refine ⟨nI r, _, _, by rw [if_neg bIt, X_r0, bind_some', E_gI eE1, bind_some', c1, bind_some', X_o0, bind_some', X_text ht t2, b2_some, E_ob eE1, bind_some', F_X0_rule, E_pI eE1, bind_some', E_pR eE1 (okR_t ht), bind_some', bind_some'], by rw [if_neg bIt, M_gI, bind_some', c2, M_pI, bind_some'], setL q 1 (some (53 + 4 * t)), _, _, setLaw v c b, rfl, rfl, ?_⟩
    refine Rv_ev (q' := setL q 1 (some (53 + 4 * t))) (I' := up2 I 1 10 (nI t)) (J' := up2 J 0 14 (nI t)) (v' := setLaw v c b) h ⟨?_, ?_, ?_, h.1.2.2.2⟩ ⟨?_, ?_, ?_, h.2.1.2.2.2⟩ h.2.2.1 h.2.2.2.1 ⟨rfl, rfl, rfl⟩ ⟨t, up2_s, up2_s, rfl, LT_mono hcb (funext fun b => up2_o (by omega)) (funext fun b => up2_o (by omega)) rfl rfl⟩ (fun a ha => funext fun b => up2_o (EC_lo ha 1 (by omega) (by omega))) (fun a h7 _ => funext fun b => up2_o (by omega)) rfl rfl rfl (fun w hw => IMG_same hw rfl rfl (Nat.le_refl _) (fun _ _ => ⟨rfl, rfl⟩))
    · exact h.1.1
    · exact h.1.2.1
    · exact h.1.2.2.1
    · exact h.2.1.1
    · exact h.2.1.2.1
    · exact h.2.1.2.2.1
theorem al_asks {fu : Nat} (hfu : 200 < fu) : Al_asks Rel fu := by
  rintro SX SM ⟨q, I, J, v, rfl, rfl, h⟩ a1 a2 a3
  have hX := Rv_X h
  have hM := Rv_M h
  have hP := hM.1
  have hW := hM.2.1
  unfold F_X7_asks F_X8_asks B_X7_asks_30 B_X8_asks_35 B_X8_asks_37
  rw [lit 3, x_fits (by decide), b2_some, lit 2, m_in0 (by decide), b2_some]
  cases hb : inb a1 3 with
  | false => exact ⟨-2, _, _, by rw [if_pos bIf]; rfl, by rw [if_pos bIf]; rfl, q, I, J, v, rfl, rfl, h⟩
  | true =>
    rw [if_neg bIt, if_neg bIt, X_r0, bind_some', E_ob eE1, bind_some', x_hasPerson eE1 h.1, b2_some, M_ob, bind_some', m_isOne hP.1 hP.2, b2_some]
    cases hb2 : inb a2 (vP v) with
    | false => exact ⟨-2, _, _, by rw [if_pos bIf]; rfl, by rw [if_pos bIf]; rfl, q, I, J, v, rfl, rfl, h⟩
    | true =>
      rw [if_neg bIt, if_neg bIt, X_r0, bind_some', E_ob eE1, bind_some', x_hasWrong eE1 h.1, b2_some, M_ob, bind_some', m_isWrong hW.1 hW.2, b2_some]
      cases hb3 : inb a3 (vW v) with
      | false => exact ⟨-2, _, _, by rw [if_pos bIf]; rfl, by rw [if_pos bIf]; rfl, q, I, J, v, rfl, rfl, h⟩
      | true =>
        obtain ⟨part, hpart, rfl⟩ := inb_of hb (by omega)
        obtain ⟨p, hp, rfl⟩ := inb_of hb2 (by omega)
        obtain ⟨k, hk, rfl⟩ := inb_of hb3 (by omega)
        obtain ⟨I1, s1, x1⟩ := x_says (fu := fu) eE1 hX h.2.2.1 hpart hp hk hfu
        obtain ⟨J1, t1, m1⟩ := m_asksOf (fu := fu) hM hpart hp hk hfu
        exact ⟨sSays v part p k, _, _, by rw [if_neg bIt, X_r0, bind_some', E_ob eE1, bind_some', x1, b2_some], by rw [if_neg bIt, M_ob, bind_some', m1, b2_some], q, I1, J1, v, rfl, rfl, Rv_mono h (EC_8 (Or.inl rfl) s1) (sm0_of t1 (by decide))⟩
theorem few_eq {v : Ev} {p : Nat} : ∀ n, fold (fun o m => if m < sL v p o then sL v p o else m) n (0 : Int32) = fold (fun o m => if (if o = p then 0 else sSaw v o p) ≤ m then m else (if o = p then 0 else sSaw v o p)) n (0 : Int32) := by
  intro n
  refine fold_congr n 0 (fun k _ m => ?_)
  rw [nle_I]
  rfl
theorem al_few {fu : Nat} (hfu : 200 < fu) : Al_few Rel fu := by
  rintro SX SM ⟨q, I, J, v, rfl, rfl, h⟩ a1
  have hX := Rv_X h
  have hM := Rv_M h
  have hP := hM.1
  unfold F_X7_few F_X8_few
  rw [X_r0, bind_some', E_ob eE1, bind_some', x_hasPerson eE1 h.1, b2_some, M_ob, bind_some', m_isOne hP.1 hP.2, b2_some]
  cases hb : inb a1 (vP v) with
  | false => exact ⟨-5, _, _, by rw [if_pos bIf], by rw [if_pos bIf], q, I, J, v, rfl, rfl, h⟩
  | true =>
    obtain ⟨p, hp, rfl⟩ := inb_of hb (by omega)
    obtain ⟨I1, ⟨s1, l1⟩, x1⟩ := x_look (fu := fu) eE1 hX h.2.2.1 hp hfu
    have hX1 := RX_L hX s1 eE1
    obtain ⟨J1, hJ, m1⟩ := loop1z mkM (B_X8_few_15 fu 0 (nI p)) (fun k => L_X8_few_15 k fu 0 (nI p)) (fun n => rfl) (vP v) (fun o m => if (if o = p then 0 else sSaw v o p) ≤ m then m else (if o = p then 0 else sSaw v o p)) 0 (fun _ J' => J' = J) (fun a J' => some (a, mkM J')) (by
      intro k J' hi
      subst hi
      unfold L_X8_few_15
      rw [M_gI, bind_some', hP.1, if_pos (nI_le (Nat.le_refl _) (by omega))]) (by
      intro k J' j hj hi
      subst hi
      refine ⟨J', rfl, ?_⟩
      unfold L_X8_few_15 B_X8_few_38 B_X8_few_52
      rw [M_gI, bind_some', hP.1, if_neg (nI_ge hj (by omega)), eq_iff_nI (by omega) (by omega), nI_1]
      by_cases hjp : j = p
      · rw [if_pos hjp, if_pos hjp]
        split <;> rfl
      · rw [if_neg hjp, if_neg hjp, M_ob, bind_some', m_sawOf hM hfu, b2_some]
        split <;> rfl) J rfl fu (by omega)
    rw [hJ] at m1
    refine ⟨sMost v p, _, _, by rw [if_neg bIt, X_r0, bind_some', E_ob eE1, bind_some', x1, bind_some', X_r0, bind_some', E_ob eE1, bind_some', x_mostSightings eE1 hX1 l1 hfu, b2_some], by rw [if_neg bIt]; unfold sMost; rw [few_eq]; exact m1, q, I1, J, v, rfl, rfl, Rv_mono h (EC_L (Or.inl rfl) s1) sm0_rf⟩
