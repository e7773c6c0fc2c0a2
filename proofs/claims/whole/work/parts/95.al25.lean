/-! away, undone -/
def msk (o : Nat) (x : Int32) : Int32 := x &&& (((1 : Int32) <<< (nI o &&& 31)) ^^^ (-1 : Int32))
def blindOf (v : Ev) (o : Nat) : Ev := (vP v, vW v, vDay v, vKind v, vMore v, vPride v, vName v, vDo v, vWt v, (fun k => msk o (vSw v k)), vCode v, vBnd v)
theorem msk_n : ∀ o, o < 6 → ∀ d, d < 64 → (List.range 64).any (fun d' => decide (msk o (nI d) = nI d')) = true := by decide +kernel
theorem okEv_blind {v : Ev} {o : Nat} (h : okEv v) (ho : o < 6) : okEv (blindOf v o) := by
  refine ⟨h.1, fun k hk => ⟨(h.2 k hk).1, (h.2 k hk).2.1, ?_⟩⟩
  obtain ⟨d, hd, ed⟩ := (h.2 k hk).2.2
  show ∃ d, d < 64 ∧ msk o (vSw v k) = nI d
  rw [ed]
  obtain ⟨d', h1, h2⟩ := List.any_eq_true.mp (msk_n o ho d hd)
  exact ⟨d', List.mem_range.mp h1, of_decide_eq_true h2⟩
theorem x_blind {q : Xp} {I : Nat → Nat → Int32} {v : Ev} {e o fu : Nat} (he : isE e) (hE : EX I e v) (hfu : 200 < fu) :
    ∃ I', smx (fun a => a = e + 7) I I' ∧ EX I' e (blindOf v o) ∧ F_X0_blind fu (mkX q I) e (nI o) = some (mkX q I') := by
  obtain ⟨hW, hW10⟩ := hE.2.1
  obtain ⟨I', ⟨s1, r1⟩, h⟩ := loop0z (mkX q) (B_X0_blind_2 fu e (nI o)) (fun k => L_X0_blind_2 k fu e (nI o)) (fun n => rfl) (vW v) (fun j I' => smx (fun a => a = e + 7) I I' ∧ ∀ k, k < vW v → I' (e + 7) k = if k < j then msk o (vSw v k) else vSw v k) (fun I' => some (mkX q I')) (by
    intro k I' hi
    unfold L_X0_blind_2
    rw [E_gI he, bind_some', hi.1 e (by omega), hW, if_pos (nI_le (Nat.le_refl _) (by omega))]) (by
    intro k I' j hj hi
    obtain ⟨hi, hr⟩ := hi
    have hrj := hr j hj
    rw [if_neg (Nat.lt_irrefl _)] at hrj
    refine ⟨up2 I' (e + 7) j (msk o (vSw v j)), ⟨smx_tr hi (smx_up rfl), fun i hi' => ?_⟩, ?_⟩
    · rw [up2_row]
      by_cases hij : i = j
      · subst hij
        rw [if_pos rfl, if_pos (by omega)]
      · rw [if_neg hij, hr i hi']
        by_cases h : i < j
        · rw [if_pos h, if_pos (by omega)]
        · rw [if_neg h, if_neg (by omega)]
    · unfold L_X0_blind_2
      rw [E_gI he, bind_some', hi e (by omega), hW, if_neg (nI_ge hj (by omega)), E_r8 he, bind_some', bind_some', E_a7 he (by omega), b2_some, hrj]
      show (F_X7_store (mkX q I') (some (e + 7)) (nI j) (msk o (vSw v j))).bind _ = _
      rw [E_s7 he (by omega), bind_some', nI_1]) I ⟨smx_rf, fun k hk => by rw [if_neg (by omega)]; exact (hE.2.2.2.2 k hk).2.2⟩ fu (by omega)
  have f : ∀ i, i < 7 → I' (e + i) = I (e + i) := fun i hi => s1 _ (by omega)
  have f0 := f 0 (by decide)
  rw [Nat.add_zero] at f0
  refine ⟨I', s1, ⟨by rw [f0]; exact hE.1, by rw [f0]; exact hE.2.1, by rw [f0]; exact hE.2.2.1, fun p hp => ?_, fun k hk => ?_⟩, h⟩
  · rw [f 1 (by decide), f 2 (by decide), f 3 (by decide), f 4 (by decide)]
    exact hE.2.2.2.1 p hp
  · have hk : k < vW v := hk
    obtain ⟨y1, y2, -⟩ := hE.2.2.2.2 k hk
    have := r1 k hk
    rw [if_pos hk] at this
    rw [f 5 (by decide), f 6 (by decide)]
    exact ⟨y1, y2, this⟩
def awf (v : Ev) (o : Nat) (ab : Int32 × Int32) : Int32 × Int32 := if sThoughtAll (blindOf v o) ≤ ab.2 then ab else (nI o, sThoughtAll (blindOf v o))
def udf (v : Ev) (k : Nat) (ab : Int32 × Int32) : Int32 × Int32 := if sThoughtAll (dropOf v k) ≤ ab.2 then ab else (nI k, sThoughtAll (dropOf v k))
theorem x_awayL {q : Xp} {I I0 J : Nat → Nat → Int32} {v : Ev} {fu : Nat} {a1 m0 : Int32} (h : Rv q I J v) (hs0 : smx EC I I0) (hfu : 200 < fu) : ∃ st : Xp × (Nat → Nat → Int32), (isQ q st.1 ∧ smx EC I st.2) ∧ B_X7_away_23 fu 0 a1 fu (mkX q I0) (-1) m0 (nI 0) = some (if a1 = 0 then (fold (awf v) (vP v) (-1, m0)).1 else (fold (awf v) (vP v) (-1, m0)).2, mkXs st) := by
  have hX := Rv_X h
  obtain ⟨hP, hP6⟩ := hX.1
  refine loop2z mkXs (B_X7_away_23 fu 0 a1) (fun k => L_X7_away_23 k fu 0 a1) (fun n => rfl) (vP v) (awf v) (-1) m0 (fun _ st => isQ q st.1 ∧ smx EC I st.2) (fun ab st => some (if a1 = 0 then ab.1 else ab.2, mkXs st)) ?_ ?_ (q, I0) ⟨Or.inl rfl, hs0⟩ fu (by omega)
  · rintro k ⟨q1, I1⟩ ⟨hq, hs⟩
    have hs : smx EC I I1 := hs
    show L_X7_away_23 k fu 0 a1 (mkX q1 I1) _ _ _ = some (_, mkX q1 I1)
    unfold L_X7_away_23 B_X7_away_91
    rw [X_r0, bind_some', E_gI eE1, bind_some', hs 1 (EC_n (by omega)), hP, if_pos (nI_le (Nat.le_refl _) (by omega))]
    split <;> rfl
  · rintro k ⟨q1, I1⟩ o ho ⟨hq, hs⟩
    have hs : smx EC I I1 := hs
    have hq : isQ q q1 := hq
    obtain ⟨I2, s2, -, x2, f2⟩ := x_think (fu := fu) h hq hs hfu
    obtain ⟨I3, s3, e3, f3⟩ := x_blind (q := qT q) (o := o) (fu := fu) eE12 (RX_E x2) hfu
    have s3' : smx EC I I3 := smx_tr s2 (smx_wk s3 (fun a ha => Or.inl (by omega)))
    have x3 : RX (qT q) I3 12 (blindOf v o) := RX_of hX e3 ⟨rfl, rfl⟩ ⟨rfl, rfl, rfl⟩ (fun a h1 h2 => s3' a (EC_n (by omega)))
    obtain ⟨I4, s4, f4⟩ := x_thoughtOfAll (fu := fu) eE12 x3 (okEv_blind h.2.2.1 (by omega)) hfu
    refine ⟨(qT q, I4), ⟨Or.inr rfl, smx_tr s3' (EC_L (Or.inr rfl) s4)⟩, ?_⟩
    generalize fold (awf v) o (-1, m0) = ab
    show L_X7_away_23 k fu 0 a1 (mkX q1 I1) _ _ _ = k (mkX (qT q) I4) _ _ _
    unfold L_X7_away_23 B_X7_away_76 awf
    rw [X_r0, bind_some', E_gI eE1, bind_some', hs 1 (EC_n (by omega)), hP, if_neg (nI_ge ho (by omega)), X_r1, bind_some', bind_some', E_ob eE12, bind_some', f2, bind_some', X_r1, bind_some', E_ob eE12, bind_some', f3, bind_some', X_r1, bind_some', E_ob eE12, bind_some', f4, b2_some, nI_1]
    by_cases hl : sThoughtAll (blindOf v o) ≤ ab.2
    · rw [if_pos hl, if_pos hl]
    · rw [if_neg hl, if_neg hl]
theorem m_awayI {J J1 J2 : Nat → Nat → Int32} {v : Ev} {fu o : Nat} {a1 x2 x3 : Int32} {k22 : Hp → Int32 → Int32 → Int32 → Option (Int32 × Hp)} (hM : RM J v) (hok : okEv v) (ho : o < vP v) (hm : MW J J1 v) (h12 : sme [22] J1 J2) (hk : KP J1 J2) (hfu : 200 < fu) :
    ∃ J', MW J J' v ∧ B_X8_away_38 k22 fu 0 a1 x2 x3 (nI o) fu (mkM J2) (nI 0) = k22 (mkM J') (if sThoughtAll (blindOf v o) ≤ x3 then x2 else nI o) (if sThoughtAll (blindOf v o) ≤ x3 then x3 else sThoughtAll (blindOf v o)) (nI (o + 1)) := by
  obtain ⟨hW, hW10⟩ := hm.1.2.1
  obtain ⟨J3, ⟨s3, r3⟩, e3⟩ := loop0z mkM (B_X8_away_38 k22 fu 0 a1 x2 x3 (nI o)) (fun k => L_X8_away_38 k22 k fu 0 a1 x2 x3 (nI o)) (fun n => rfl) (vW v) (fun j J' => sme [6] J2 J' ∧ ∀ k, k < vW v → J' 6 k = if k < j then msk o (vSw v k) else vSw v k) (fun J' => L_X8_away_38 k22 (fun _ _ => none) fu 0 a1 x2 x3 (nI o) (mkM J') (nI (vW v))) (by
    intro k J' hi
    unfold L_X8_away_38
    rw [M_gI, bind_some', bind_some', hi.1 0 (by decide), h12 0 (by decide), hW, if_pos (nI_le (Nat.le_refl _) (by omega)), if_pos (nI_le (Nat.le_refl _) (by omega))]) (by
    intro k J' j hj hi
    obtain ⟨hi, hr⟩ := hi
    have hrj := hr j hj
    rw [if_neg (Nat.lt_irrefl _)] at hrj
    refine ⟨up2 J' 6 j (msk o (vSw v j)), ⟨sme_tr hi (sme_up (by decide)), fun i hi' => ?_⟩, ?_⟩
    · rw [up2_row]
      by_cases hij : i = j
      · subst hij
        rw [if_pos rfl, if_pos (by omega)]
      · rw [if_neg hij, hr i hi']
        by_cases h : i < j
        · rw [if_pos h, if_pos (by omega)]
        · rw [if_neg h, if_neg (by omega)]
    · unfold L_X8_away_38
      rw [M_gI, bind_some', hi 0 (by decide), h12 0 (by decide), hW, if_neg (nI_ge hj (by omega)), M_r6, bind_some', M_g6 (by omega), bind_some', hrj]
      show (aP (mkM J') (some 6) (nI j) (msk o (vSw v j))).bind _ = _
      rw [M_p6 (by omega), bind_some', nI_1]) J2 ⟨sme_rf, fun k hk' => by rw [if_neg (by omega), h12 6 (by decide)]; exact (hm.1.2.2.2.2 k hk').2.2⟩ fu (by omega)
  have f3 : ∀ a, a ≠ 6 → a ≠ 22 → J3 a = J1 a := fun a h6 h22 => (s3 a (by simp; omega)).trans (h12 a (by simp; omega))
  have em3 : EM J3 (blindOf v o) := by
    obtain ⟨g1, g2, g3, g4, g5⟩ := hm.1
    refine ⟨by rw [f3 0 (by decide) (by decide)]; exact g1, by rw [f3 0 (by decide) (by decide)]; exact g2, by rw [f3 0 (by decide) (by decide)]; exact g3, fun p hp => ?_, fun k hk' => ?_⟩
    · rw [f3 1 (by decide) (by decide), f3 2 (by decide) (by decide), f3 3 (by decide) (by decide)]
      exact g4 p hp
    · have hk' : k < vW v := hk'
      have := r3 k hk'
      rw [if_pos hk'] at this
      rw [f3 4 (by decide) (by decide), f3 5 (by decide) (by decide)]
      exact ⟨(g5 k hk').1, (g5 k hk').2.1, this⟩
  have rm3 : RM J3 (blindOf v o) := RM_of (MW_M hM hm) em3 ⟨rfl, rfl⟩ (by rw [f3 0 (by decide) (by decide)]) (f3 9 (by decide) (by decide)) (f3 8 (by decide) (by decide))
  obtain ⟨J4, t4, m4⟩ := m_thoughtAll (fu := fu) rm3 (okEv_blind hok (by have := hM.1.2; omega)) hfu
  obtain ⟨J5, w5, -, m5⟩ := m_lays (fu := fu) hm (KP_s (KP_s hk s3 (by decide)) t4 (by decide)) hfu
  refine ⟨J5, w5, e3.trans ?_⟩
  unfold L_X8_away_38 B_X8_away_91 B_X8_away_104
  rw [M_gI, bind_some', em3.2.1.1, if_pos (show nI (vW (blindOf v o)) ≤ nI (vW v) from nI_le (Nat.le_refl _) (by omega)), M_ob, bind_some', m4, b2_some, M_ob, bind_some', m5, bind_some', nI_1]
  by_cases hl : sThoughtAll (blindOf v o) ≤ x3
  · rw [if_pos hl, if_pos hl, if_pos hl, if_pos hl]
  · rw [if_neg hl, if_neg hl, if_neg hl, if_neg hl]
theorem al_away {fu : Nat} (hfu : 200 < fu) : Al_away Rel fu := by
  rintro SX SM ⟨q, I, J, v, rfl, rfl, h⟩ a1
  have hX := Rv_X h
  have hM := Rv_M h
  have hok := h.2.2.1
  obtain ⟨hP, hP6⟩ := hM.1
  have e1 : F_X8_in (mkM J) a1 0 1 = some (bI (inb a1 2), mkM J) := m_in0 (by decide)
  unfold F_X7_away F_X8_away
  rw [x_zo, b2_some, e1, b2_some]
  cases hb : inb a1 2 with
  | false => exact ⟨-2, _, _, by rw [if_pos bIf], by rw [if_pos bIf], q, I, J, v, rfl, rfl, h⟩
  | true =>
    obtain ⟨I1, s1, x1⟩ := x_thoughtOfAll (fu := fu) eE1 hX hok hfu
    obtain ⟨J1, t1, m1⟩ := m_thoughtAll (fu := fu) hM hok hfu
    rw [if_neg bIt, if_neg bIt, X_r0, bind_some', E_ob eE1, bind_some', x1, b2_some, M_ob, bind_some', m1, b2_some]
    obtain ⟨⟨q2, I2⟩, ⟨hq2, hs2⟩, x2⟩ := x_awayL (a1 := a1) (m0 := sThoughtAll v) (fu := fu) h (EC_L (Or.inl rfl) s1) hfu
    obtain ⟨J2, w2, m2⟩ := loop2z mkM (B_X8_away_22 fu 0 a1) (fun k => L_X8_away_22 k fu 0 a1) (fun n => rfl) (vP v) (awf v) (-1) (sThoughtAll v) (fun _ J' => MW J J' v) (fun ab J' => some (if a1 = 0 then ab.1 else ab.2, mkM J')) (by
      intro k J' hi
      unfold L_X8_away_22 B_X8_away_120
      rw [M_gI, bind_some', hi.1.1.1, if_pos (nI_le (Nat.le_refl _) (by omega))]
      split <;> rfl) (by
      intro k J' o ho hi
      generalize fold (awf v) o (-1, sThoughtAll v) = ab
      obtain ⟨J3, t3, k3, m3⟩ := m_keeps (J := J') (fu := fu) hfu
      obtain ⟨J4, w4, m4⟩ := m_awayI (a1 := a1) (x2 := ab.1) (x3 := ab.2) (k22 := k) (fu := fu) hM hok ho hi t3 k3 hfu
      refine ⟨J4, w4, ?_⟩
      unfold L_X8_away_22 awf
      rw [M_gI, bind_some', hi.1.1.1, if_neg (nI_ge ho (by omega)), M_ob, bind_some', m3, bind_some']
      refine m4.trans ?_
      by_cases hl : sThoughtAll (blindOf v o) ≤ ab.2
      · rw [if_pos hl, if_pos hl, if_pos hl]
      · rw [if_neg hl, if_neg hl, if_neg hl]) J1 (MW_s (MW_0 h.2.1) t1 (by decide)) fu (by omega)
    exact ⟨_, _, _, x2, m2, q2, I2, J2, v, rfl, rfl, Rv_MW h hq2 hs2 w2⟩
theorem al_undone {fu : Nat} (hfu : 200 < fu) : Al_undone Rel fu := by
  rintro SX SM ⟨q, I, J, v, rfl, rfl, h⟩ a1
  have hX := Rv_X h
  have hM := Rv_M h
  have hok := h.2.2.1
  obtain ⟨hW, hW10⟩ := hX.2.1
  have e1 : F_X8_in (mkM J) a1 0 1 = some (bI (inb a1 2), mkM J) := m_in0 (by decide)
  unfold F_X7_undone F_X8_undone
  rw [x_zo, b2_some, e1, b2_some]
  cases hb : inb a1 2 with
  | false => exact ⟨-2, _, _, by rw [if_pos bIf], by rw [if_pos bIf], q, I, J, v, rfl, rfl, h⟩
  | true =>
    obtain ⟨I1, s1, x1⟩ := x_thoughtOfAll (fu := fu) eE1 hX hok hfu
    obtain ⟨J1, t1, m1⟩ := m_thoughtAll (fu := fu) hM hok hfu
    rw [if_neg bIt, if_neg bIt, X_r0, bind_some', E_ob eE1, bind_some', x1, b2_some, M_ob, bind_some', m1, b2_some]
    obtain ⟨⟨q2, I2⟩, ⟨hq2, hs2⟩, x2⟩ := loop2z mkXs (B_X7_undone_23 fu 0 a1) (fun k => L_X7_undone_23 k fu 0 a1) (fun n => rfl) (vW v) (udf v) (-1) (sThoughtAll v) (fun _ st => isQ q st.1 ∧ smx EC I st.2) (fun ab st => some (if a1 = 0 then ab.1 else ab.2, mkXs st)) (by
      rintro k ⟨q1, I1⟩ ⟨hq, hs⟩
      have hs : smx EC I I1 := hs
      show L_X7_undone_23 k fu 0 a1 (mkX q1 I1) _ _ _ = some (_, mkX q1 I1)
      unfold L_X7_undone_23 B_X7_undone_91
      rw [X_r0, bind_some', E_gI eE1, bind_some', hs 1 (EC_n (by omega)), hW, if_pos (nI_le (Nat.le_refl _) (by omega))]
      split <;> rfl) (by
      rintro k ⟨q1, I1⟩ o ho ⟨hq, hs⟩
      have hs : smx EC I I1 := hs
      have hq : isQ q q1 := hq
      obtain ⟨I2, s2, -, x2, f2⟩ := x_think (fu := fu) h hq hs hfu
      obtain ⟨I3, s3, -, e3, f3⟩ := x_drop (q := qT q) (k := o) (fu := fu) eE12 (RX_E x2) ho hfu
      have s3' : smx EC I I3 := smx_tr s2 (smx_wk s3 (fun a ha => by
        unfold ED at ha
        exact Or.inl (by omega)))
      have x3 : RX (qT q) I3 12 (dropOf v o) := RX_of hX e3 ⟨rfl, rfl⟩ ⟨rfl, rfl, rfl⟩ (fun a h1 h2 => s3' a (EC_n (by omega)))
      obtain ⟨I4, s4, f4⟩ := x_thoughtOfAll (fu := fu) eE12 x3 (okEv_drop hok ho) hfu
      refine ⟨(qT q, I4), ⟨Or.inr rfl, smx_tr s3' (EC_L (Or.inr rfl) s4)⟩, ?_⟩
      generalize fold (udf v) o (-1, sThoughtAll v) = ab
      show L_X7_undone_23 k fu 0 a1 (mkX q1 I1) _ _ _ = k (mkX (qT q) I4) _ _ _
      unfold L_X7_undone_23 B_X7_undone_76 udf
      rw [X_r0, bind_some', E_gI eE1, bind_some', hs 1 (EC_n (by omega)), hW, if_neg (nI_ge ho (by omega)), X_r1, bind_some', bind_some', E_ob eE12, bind_some', f2, bind_some', X_r1, bind_some', E_ob eE12, bind_some', f3, bind_some', X_r1, bind_some', E_ob eE12, bind_some', f4, b2_some, nI_1]
      by_cases hl : sThoughtAll (dropOf v o) ≤ ab.2
      · rw [if_pos hl, if_pos hl]
      · rw [if_neg hl, if_neg hl]) (q, I1) ⟨Or.inl rfl, EC_L (Or.inl rfl) s1⟩ fu (by omega)
    obtain ⟨J2, w2, m2⟩ := loop2z mkM (B_X8_undone_22 fu 0 a1) (fun k => L_X8_undone_22 k fu 0 a1) (fun n => rfl) (vW v) (udf v) (-1) (sThoughtAll v) (fun _ J' => MW J J' v) (fun ab J' => some (if a1 = 0 then ab.1 else ab.2, mkM J')) (by
      intro k J' hi
      unfold L_X8_undone_22 B_X8_undone_92
      rw [M_gI, bind_some', hi.1.2.1.1, if_pos (nI_le (Nat.le_refl _) (by omega))]
      split <;> rfl) (by
      intro k J' o ho hi
      generalize fold (udf v) o (-1, sThoughtAll v) = ab
      obtain ⟨J3, t3, k3, m3⟩ := m_keeps (J := J') (fu := fu) hfu
      have w3 : MW J J3 v := MW_s hi t3 (by decide)
      obtain ⟨J4, t4, j4, e4, m4⟩ := m_drops (fu := fu) w3.1 ho hfu
      have k4 : KP J' J4 := by
        obtain ⟨p1, p2, p3, p4⟩ := k3
        exact ⟨fun a ha => (t4 a (by simp; omega)).trans (p1 a ha), fun j h1 h2 => (j4 j h1).trans (p2 j h1 h2), by rw [t4 22 (by decide)]; exact p3, by rw [t4 22 (by decide)]; exact p4⟩
      have rm4 : RM J4 (dropOf v o) := RM_of (MW_M hM w3) e4 ⟨rfl, rfl⟩ (j4 14 (by decide)) (t4 9 (by decide)) (t4 8 (by decide))
      obtain ⟨J5, t5, m5⟩ := m_thoughtAll (fu := fu) rm4 (okEv_drop hok ho) hfu
      obtain ⟨J6, w6, -, m6⟩ := m_lays (fu := fu) hi (KP_s k4 t5 (by decide)) hfu
      refine ⟨J6, w6, ?_⟩
      unfold L_X8_undone_22 B_X8_undone_63 B_X8_undone_76 udf
      rw [M_gI, bind_some', hi.1.2.1.1, if_neg (nI_ge ho (by omega)), M_ob, bind_some', m3, bind_some', M_ob, bind_some', m4, bind_some', M_ob, bind_some', m5, b2_some, M_ob, bind_some', m6, bind_some', nI_1]
      by_cases hl : sThoughtAll (dropOf v o) ≤ ab.2
      · rw [if_pos hl, if_pos hl, if_pos hl]
      · rw [if_neg hl, if_neg hl, if_neg hl]) J1 (MW_s (MW_0 h.2.1) t1 (by decide)) fu (by omega)
    exact ⟨_, _, _, x2, m2, q2, I2, J2, v, rfl, rfl, Rv_MW h hq2 hs2 w2⟩
