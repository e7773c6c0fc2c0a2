/-! strokes by sets of wrongs -/
def E44 (a : Nat) : Prop := E8 1 a ∨ a = 44
theorem RX_44 {q : Xp} {I I' : Nat → Nat → Int32} {v : Ev} (h : RX q I 1 v) (hs : smx E44 I I') : RX q I' 1 v :=
  RX_smx h hs (fun a ha => by
    rcases ha with (h | h) | h
    · exact Or.inl h
    · exact Or.inr ⟨by omega, fun i hi => by omega⟩
    · exact Or.inr ⟨by omega, fun i hi => by omega⟩) eE1
theorem EC_44 {I I' : Nat → Nat → Int32} (h : smx E44 I I') : smx EC I I' := smx_wk h (fun a ha => by
  rcases ha with (h | h) | h
  · exact Or.inr (Or.inr (Or.inr h))
  · exact Or.inl (by omega)
  · exact Or.inr (Or.inr (Or.inl (by omega))))
theorem E44_n {a : Nat} (h : a < 9) : ¬ E44 a := fun q => by
  rcases q with (⟨q1, q2⟩ | q) | q <;> omega
theorem x_fill {q : Xp} {I : Nat → Nat → Int32} {v : Ev} {p fu : Nat} (hR : RX q I 1 v) (hok : okEv v) (hp : p < vP v) (hfu : 200 < fu) :
    ∃ I', (smx E44 I I' ∧ ∀ k, k < vW v → I' 44 k = sStrokes v p k) ∧ F_X0_fillStrokes fu (mkX q I) 1 (nI p) (some 44) = some (mkX q I') := by
  obtain ⟨hW, hW10⟩ := hR.2.1
  refine loop0z (mkX q) (B_X0_fillStrokes_2 fu 1 (nI p) (some 44)) (fun k => L_X0_fillStrokes_2 k fu 1 (nI p) (some 44)) (fun n => rfl) (vW v) (fun j I' => smx E44 I I' ∧ ∀ k, k < j → I' 44 k = sStrokes v p k) (fun I' => some (mkX q I')) (by
    intro k I' hi
    unfold L_X0_fillStrokes_2
    rw [E_gI eE1, bind_some', hi.1 1 (E44_n (by omega)), hW, if_pos (nI_le (Nat.le_refl _) (by omega))]) (by
    intro k I' j hj hi
    obtain ⟨g1, g2⟩ := hi
    obtain ⟨I1, s1, x1⟩ := x_strokes (fu := fu) eE1 (RX_44 hR g1) hok hp hj hfu
    have st : F_X7_store (mkX q I1) (some 44) (nI j) (sStrokes v p j) = some (mkX q (up2 I1 44 j (sStrokes v p j))) := X_st 10 (by decide) rfl (by omega) (by decide)
    have e44 : I1 44 = I' 44 := s1 _ (fun q => by rcases q with ⟨q1, q2⟩ | q <;> omega)
    refine ⟨up2 I1 44 j (sStrokes v p j), ⟨smx_tr (smx_tr g1 (smx_wk s1 (fun a ha => Or.inl ha))) (smx_up (Or.inr rfl)), fun k hk => ?_⟩, ?_⟩
    · rw [up2_row, e44]
      by_cases hkj : k = j
      · rw [if_pos hkj, hkj]
      · rw [if_neg hkj]; exact g2 k (by omega)
    · unfold L_X0_fillStrokes_2
      rw [E_gI eE1, bind_some', g1 1 (E44_n (by omega)), hW, if_neg (nI_ge hj (by omega)), E_ob eE1, bind_some', x1, b2_some, st, bind_some', nI_1]) I ⟨smx_rf, fun k hk => by omega⟩ fu (by omega)
theorem m_tells {J : Nat → Nat → Int32} {v : Ev} {p fu : Nat} (hM : RM J v) (hp : p < vP v) (hfu : 200 < fu) :
    ∃ J', (sme [18, 19, 21] J J' ∧ ∀ k, k < vW v → J' 21 k = sStrokes v p k) ∧ F_X8_tellsStrokes fu (mkM J) 0 (nI p) = some (mkM J') := by
  obtain ⟨hW, hW10⟩ := RM_W hM
  refine loop0z mkM (B_X8_tellsStrokes_2 fu 0 (nI p)) (fun k => L_X8_tellsStrokes_2 k fu 0 (nI p)) (fun n => rfl) (vW v) (fun j J' => sme [18, 19, 21] J J' ∧ ∀ k, k < j → J' 21 k = sStrokes v p k) (fun J' => some (mkM J')) (by
    intro k J' hi
    unfold L_X8_tellsStrokes_2
    rw [M_gI, bind_some', hi.1 0 (by decide), hW, if_pos (nI_le (Nat.le_refl _) (by omega))]) (by
    intro k J' j hj hi
    obtain ⟨g1, g2⟩ := hi
    obtain ⟨J1, t1, m1⟩ := m_strokesOf (fu := fu) (RM_sme hM g1 (by decide)) hp hj hfu
    refine ⟨up2 J1 21 j (sStrokes v p j), ⟨sme_tr (sme_tr g1 (sme_wk t1 (by decide))) (sme_up (by decide)), fun k hk => ?_⟩, ?_⟩
    · rw [up2_row, t1 21 (by decide)]
      by_cases hkj : k = j
      · rw [if_pos hkj, hkj]
      · rw [if_neg hkj]; exact g2 k (by omega)
    · unfold L_X8_tellsStrokes_2
      rw [M_gI, bind_some', g1 0 (by decide), hW, if_neg (nI_ge hj (by omega)), M_r34, bind_some', M_ob, bind_some', m1, b2_some, M_p21 (by omega), bind_some', nI_1]) J ⟨sme_rf, fun k hk => by omega⟩ fu (by omega)
def sBy (v : Ev) (p : Nat) (set : Int32) : Int32 := fold (fun k a => a + (if bt set (nI k) then sStrokes v p k else 0)) (vW v) 0
theorem sBy_n {v : Ev} {p : Nat} {set : Int32} (hok : okEv v) (hp : p < vP v) (hW : vW v ≤ 10) : ∃ n, n ≤ 580 ∧ sBy v p set = nI n := by
  obtain ⟨m, h1, h2⟩ := fold_n (f := fun k => if bt set (nI k) then sStrokes v p k else 0) (c := 58) (vW v) (fun k hk => by
    show ∃ m, m ≤ 58 ∧ (if bt set (nI k) then sStrokes v p k else 0) = nI m
    split
    · exact sStrokes_n hok hp
    · exact ⟨0, by omega, rfl⟩)
  exact ⟨m, by omega, h2⟩
theorem x_bySet {q : Xp} {I : Nat → Nat → Int32} {v : Ev} {p fu : Nat} {set : Int32} (hE : EX I 1 v) (h44 : ∀ k, k < vW v → I 44 k = sStrokes v p k) (hfu : 200 < fu) : F_X7_strokesBySet fu (mkX q I) 0 set = some (sBy v p set, mkX q I) := by
  obtain ⟨hW, hW10⟩ := hE.2.1
  obtain ⟨I', hI, h⟩ := loop1z (mkX q) (B_X7_strokesBySet_4 fu 0 set) (fun k => L_X7_strokesBySet_4 k fu 0 set) (fun n => rfl) (vW v) (fun k a => a + (if bt set (nI k) then sStrokes v p k else 0)) 0 (fun _ I' => I' = I) (fun a I' => some (a, mkX q I')) (by
    intro k I' hi
    subst hi
    unfold L_X7_strokesBySet_4
    rw [X_r0, bind_some', E_gI eE1, bind_some', hW, if_pos (nI_le (Nat.le_refl _) (by omega))]) (by
    intro k I' j hj hi
    subst hi
    refine ⟨I', rfl, ?_⟩
    have at44 : F_X7_at (mkX q I') (some 44) (nI j) = some (I' 44 j, mkX q I') := X_at 10 (by decide) rfl (by omega) (by decide)
    unfold L_X7_strokesBySet_4 B_X7_strokesBySet_36
    rw [X_r0, bind_some', E_gI eE1, bind_some', hW, if_neg (nI_ge hj (by omega)), x_hasBit, b2_some, bI_ne, X_r9, bind_some', at44, b2_some, h44 j hj, nI_1]
    split <;> rfl) I rfl fu (by omega)
  rw [hI] at h
  exact h
theorem m_bySet {J : Nat → Nat → Int32} {v : Ev} {p fu : Nat} {set : Int32} (hW : J 0 7 = nI (vW v)) (hW10 : vW v ≤ 10) (h21 : ∀ k, k < vW v → J 21 k = sStrokes v p k) (hfu : 200 < fu) : F_X8_beatsBy fu (mkM J) 0 set = some (sBy v p set, mkM J) := by
  obtain ⟨J', hJ, h⟩ := loop1z mkM (B_X8_beatsBy_4 fu 0 set) (fun k => L_X8_beatsBy_4 k fu 0 set) (fun n => rfl) (vW v) (fun k a => a + (if bt set (nI k) then sStrokes v p k else 0)) 0 (fun _ J' => J' = J) (fun a J' => some (a, mkM J')) (by
    intro k J' hi
    subst hi
    unfold L_X8_beatsBy_4
    rw [M_gI, bind_some', hW, if_pos (nI_le (Nat.le_refl _) (by omega))]) (by
    intro k J' j hj hi
    subst hi
    refine ⟨J', rfl, ?_⟩
    unfold L_X8_beatsBy_4 B_X8_beatsBy_32
    rw [M_gI, bind_some', hW, if_neg (nI_ge hj (by omega)), M_r34, bind_some', M_g21 (by omega), bind_some', h21 j hj, nI_1]
    by_cases hb : ((set >>> (nI j &&& 31)) &&& (1 : Int32)) = 1
    · have hb2 : bt set (nI j) = true := decide_eq_true hb
      rw [if_pos hb, if_pos hb2]
    · have hb2 : ¬ bt set (nI j) = true := by
        intro q
        exact hb (of_decide_eq_true q)
      rw [if_neg hb, if_neg hb2]) J rfl fu (by omega)
  rw [hJ] at h
  exact h
theorem m_own {J : Nat → Nat → Int32} {v : Ev} {p fu : Nat} (hM : RM J v) (hfu : 200 < fu) : F_X8_ownSet fu (mkM J) 0 (nI p) = some (nI (setN' (fun k => dd v p k) (vW v)), mkM J) := by
  obtain ⟨hW, hW10⟩ := RM_W hM
  obtain ⟨J', hJ, h⟩ := loop1z mkM (B_X8_ownSet_4 fu 0 (nI p)) (fun k => L_X8_ownSet_4 k fu 0 (nI p)) (fun n => rfl) (vW v) (fun k s => s ||| (if dd v p k then (1 : Int32) <<< (nI k &&& 31) else 0)) 0 (fun _ J' => J' = J) (fun a J' => some (a, mkM J')) (by
    intro k J' hi
    subst hi
    unfold L_X8_ownSet_4
    rw [M_gI, bind_some', hW, if_pos (nI_le (Nat.le_refl _) (by omega))]) (by
    intro k J' j hj hi
    subst hi
    refine ⟨J', rfl, ?_⟩
    unfold L_X8_ownSet_4 B_X8_ownSet_29
    rw [M_gI, bind_some', hW, if_neg (nI_ge hj (by omega)), M_ob, bind_some', m_did (by omega), b2_some, bI_ne, (RM_k hM hj).1, nI_1]
    show _ = k (mkM J') (_ ||| (if bt (vDo v j) (nI p) then _ else _)) _
    split <;> rfl) J rfl fu (by omega)
  rw [hJ, setI_n _ hW10] at h
  exact h
theorem x_own {q : Xp} {I : Nat → Nat → Int32} {v : Ev} {p fu : Nat} (hE : EX I 1 v) (hfu : 200 < fu) : F_X0_wrongsWith fu (mkX q I) 1 (some (1 + 5)) (nI p) = some (nI (setN' (fun k => dd v p k) (vW v)), mkX q I) :=
  x_wrongsWith 5 eE1 hE (Or.inl rfl) (fun k hk => by rw [(hE.2.2.2.2 k hk).1]; rfl) hfu
/-! hire -/
def sHP (v : Ev) (p o : Nat) : Int32 := fold (fun k a => a + (if dd v p k then sPays v o k else 0)) (vW v) 0
theorem price_set {v : Ev} {p o : Nat} (hW10 : vW v ≤ 10) : sPrice v o (nI (setN' (fun k => dd v p k) (vW v))) = sHP v p o := by
  unfold sPrice sHP
  exact fold_congr _ _ (fun k hk b => by rw [bt_set hW10 hk])
def hif (v : Ev) (p o : Nat) (ab : Int32 × Int32) : Int32 × Int32 := if o = p then ab else if ab.1 = -1 ∨ sHP v p o < ab.2 then (nI o, sHP v p o) else ab
theorem m_hireI {J : Nat → Nat → Int32} {v : Ev} {fu p o : Nat} {x2 x3 x4 : Int32} {k31 : Hp → Int32 → Int32 → Int32 → Option (Int32 × Hp)} (hM : RM J v) (ho : o < vP v) (hfu : 200 < fu) :
    ∃ J', sme [18, 19] J J' ∧ B_X8_hire_52 k31 fu 0 (nI p) x2 x3 x4 (nI o) fu (mkM J) 0 (nI 0) = k31 (mkM J') (if x3 = -1 ∨ sHP v p o < x4 then nI o else x3) (if x3 = -1 ∨ sHP v p o < x4 then sHP v p o else x4) (nI (o + 1)) := by
  obtain ⟨hW, hW10⟩ := RM_W hM
  refine loop1z mkM (B_X8_hire_52 k31 fu 0 (nI p) x2 x3 x4 (nI o)) (fun k => L_X8_hire_52 k31 k fu 0 (nI p) x2 x3 x4 (nI o)) (fun n => rfl) (vW v) (fun k a => a + (if dd v p k then sPays v o k else 0)) 0 (fun _ J' => sme [18, 19] J J') (fun a J' => k31 (mkM J') (if x3 = -1 ∨ a < x4 then nI o else x3) (if x3 = -1 ∨ a < x4 then a else x4) (nI (o + 1))) ?_ ?_ J sme_rf fu (by omega)
  · intro k J' hi
    generalize fold (fun k a => a + (if dd v p k then sPays v o k else 0)) (vW v) 0 = a
    unfold L_X8_hire_52 B_X8_hire_106 B_X8_hire_111 B_X8_hire_124 B_X8_hire_137 B_X8_hire_139
    rw [M_gI, bind_some', sme8 hi (by decide), hW, if_pos (nI_le (Nat.le_refl _) (by omega)), nI_1]
    have e1 : ¬ (1 : Int32) = 0 := by decide
    by_cases h3 : x3 = -1
    · rw [if_pos h3, if_neg e1, if_neg e1, if_pos (Or.inl h3), if_pos (Or.inl h3)]
    · rw [if_neg h3, nle_I]
      by_cases h4 : a < x4
      · rw [if_pos h4, if_neg e1, if_neg e1, if_pos (Or.inr h4), if_pos (Or.inr h4)]
      · have hn : ¬ (x3 = -1 ∨ a < x4) := fun q => q.elim h3 h4
        rw [if_neg h4, if_pos rfl, if_pos rfl, if_neg hn, if_neg hn]
  · intro k J' j hj hi
    unfold L_X8_hire_52 B_X8_hire_85
    rw [M_gI, bind_some', sme8 hi (by decide), hW, if_neg (nI_ge hj (by omega)), M_ob, bind_some', m_did (by omega), b2_some, bI_ne, sme8 hi (by decide), (RM_k hM hj).1, nI_1]
    by_cases hb : bt (vDo v j) (nI p) = true
    · obtain ⟨J1, hs1, e1⟩ := m_paysOf (fu := fu) (RM_sme hM hi (by decide)) ho hj hfu
      refine ⟨J1, sme_tr hi hs1, ?_⟩
      rw [if_pos hb, M_ob, bind_some', e1, b2_some, show dd v p j = true from hb]
      rfl
    · refine ⟨J', hi, ?_⟩
      have hb : bt (vDo v j) (nI p) = false := by simpa using hb
      rw [hb, if_neg (by decide), show dd v p j = false from hb]
      rfl
theorem al_hire {fu : Nat} (hfu : 200 < fu) : Al_hire Rel fu := by
  rintro SX SM ⟨q, I, J, v, rfl, rfl, h⟩ a1 a2
  have hX := Rv_X h
  have hM := Rv_M h
  have hok := h.2.2.1
  obtain ⟨hP, hP6⟩ := hM.1
  have hW10 := hM.2.1.2
  have no : ∀ x : Int32, ∃ (r : Int32) (SX1 SM1 : Hp), (some (x, mkX q I) : Option (Int32 × Hp)) = some (r, SX1) ∧ (some (x, mkM J) : Option (Int32 × Hp)) = some (r, SM1) ∧ Rel SX1 SM1 := fun x => ⟨x, _, _, rfl, rfl, q, I, J, v, rfl, rfl, h⟩
  have e1 : F_X8_in (mkM J) a2 0 1 = some (bI (inb a2 2), mkM J) := m_in0 (by decide)
  unfold F_X7_hire F_X8_hire
  rw [X_r0, bind_some', E_ob eE1, bind_some', x_hasPerson eE1 h.1, b2_some, M_ob, bind_some', m_isOne hP hP6, b2_some]
  cases hb : inb a1 (vP v) with
  | false => rw [if_pos bIf, if_pos bIf]; exact no _
  | true =>
    obtain ⟨p, hp, rfl⟩ := inb_of hb (by omega)
    rw [if_neg bIt, if_neg bIt, x_zo, b2_some, e1, b2_some]
    cases hb2 : inb a2 2 with
    | false => rw [if_pos bIf, if_pos bIf]; exact no _
    | true =>
      have hown := x_own (q := q) (p := p) (fu := fu) h.1 hfu
      rw [if_neg bIt, if_neg bIt, X_r0, bind_some', bind_some', E_r6 eE1, bind_some', E_ob eE1, bind_some', hown, b2_some]
      obtain ⟨I1, s1, x1⟩ := loop2z (mkX q) (B_X7_hire_49 fu 0 (nI p) a2 (nI (setN' (fun k => dd v p k) (vW v)))) (fun k => L_X7_hire_49 k fu 0 (nI p) a2 (nI (setN' (fun k => dd v p k) (vW v)))) (fun n => rfl) (vP v) (hif v p) (-1) (-1) (fun _ I' => smx (E8 1) I I') (fun ab I' => some (if a2 = 0 then ab.1 else ab.2, mkX q I')) (by
        intro k I' hi
        unfold L_X7_hire_49 B_X7_hire_127
        rw [X_r0, bind_some', E_gI eE1, bind_some', hi 1 (E8_lt eE1 0 (by decide) rfl), hX.1.1, if_pos (nI_le (Nat.le_refl _) (by omega))]
        split <;> rfl) (by
        intro k I' o ho hi
        generalize fold (hif v p) o (-1, -1) = ab
        unfold L_X7_hire_49 B_X7_hire_81 B_X7_hire_102 B_X7_hire_110 hif
        rw [X_r0, bind_some', E_gI eE1, bind_some', hi 1 (E8_lt eE1 0 (by decide) rfl), hX.1.1, if_neg (nI_ge ho (by omega)), nI_1]
        by_cases hop : o = p
        · exact ⟨I', hi, by rw [if_pos (show nI o = nI p by rw [hop]), if_pos (show nI o = nI p by rw [hop]), if_pos hop]⟩
        · have hno : ¬ nI o = nI p := fun q => hop (nI_inj (by omega) (by omega) q)
          obtain ⟨I2, s2, x2⟩ := x_price (set := nI (setN' (fun k => dd v p k) (vW v))) (fu := fu) eE1 (RX_8 hX hi eE1) hok ho hfu
          refine ⟨I2, smx_tr hi s2, ?_⟩
          rw [if_neg hno, bind_some', E_ob eE1, bind_some', x2, b2_some, price_set hW10, if_neg hno, if_neg hop, nle_I]
          by_cases h1 : ab.1 = -1
          · rw [if_pos h1, if_pos (Or.inl h1)]
          · rw [if_neg h1]
            by_cases h2 : sHP v p o < ab.2
            · rw [if_pos h2, if_pos (Or.inr h2)]
            · rw [if_neg h2, if_neg (fun q => q.elim h1 h2)]) I smx_rf fu (by omega)
      obtain ⟨J1, t1, m1⟩ := loop2z mkM (B_X8_hire_31 fu 0 (nI p) a2) (fun k => L_X8_hire_31 k fu 0 (nI p) a2) (fun n => rfl) (vP v) (hif v p) (-1) (-1) (fun _ J' => sme [18, 19] J J') (fun ab J' => some (if a2 = 0 then ab.1 else ab.2, mkM J')) (by
        intro k J' hi
        unfold L_X8_hire_31 B_X8_hire_155
        rw [M_gI, bind_some', sme8 hi (by decide), hP, if_pos (nI_le (Nat.le_refl _) (by omega))]
        split <;> rfl) (by
        intro k J' o ho hi
        generalize fold (hif v p) o (-1, -1) = ab
        unfold L_X8_hire_31 B_X8_hire_139 hif
        rw [M_gI, bind_some', sme8 hi (by decide), hP, if_neg (nI_ge ho (by omega))]
        by_cases hop : o = p
        · exact ⟨J', hi, by rw [if_pos (show nI o = nI p by rw [hop]), if_pos hop, nI_1]⟩
        · have hno : ¬ nI o = nI p := fun q => hop (nI_inj (by omega) (by omega) q)
          obtain ⟨J2, t2, m2⟩ := m_hireI (p := p) (x2 := a2) (x3 := ab.1) (x4 := ab.2) (k31 := k) (fu := fu) (RM_sme hM hi (by decide)) ho hfu
          refine ⟨J2, sme_tr hi t2, ?_⟩
          rw [if_neg hno, if_neg hop]
          refine m2.trans ?_
          by_cases h1 : ab.1 = -1 ∨ sHP v p o < ab.2
          · rw [if_pos h1, if_pos h1, if_pos h1]
          · rw [if_neg h1, if_neg h1, if_neg h1]) J sme_rf fu (by omega)
      exact ⟨_, _, _, x1, m1, q, I1, J1, v, rfl, rfl, Rv_mono h (EC_8 (Or.inl rfl) s1) (sm0_of t1 (by decide))⟩
