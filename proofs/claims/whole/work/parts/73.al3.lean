/-! the town, the night, persons -/
theorem loop4z {St R : Type} (mk : St → Hp) (B : Nat → Hp → Int32 → Int32 → Int32 → Int32 → Int32 → Option R) (L : (Hp → Int32 → Int32 → Int32 → Int32 → Int32 → Option R) → Hp → Int32 → Int32 → Int32 → Int32 → Int32 → Option R) (hB : ∀ n, B (n + 1) = L (B n)) (N : Nat) (f : Nat → Int32 × Int32 × Int32 × Int32 → Int32 × Int32 × Int32 × Int32) (a0 : Int32 × Int32 × Int32 × Int32) (Inv : Nat → St → Prop) (X : Int32 × Int32 × Int32 × Int32 → St → Option R)
    (hx : ∀ k J, Inv N J → ∀ a, a = fold f N a0 → L k (mk J) a.1 a.2.1 a.2.2.1 a.2.2.2 (nI N) = X a J)
    (hs : ∀ k J j, j < N → Inv j J → ∀ a, a = fold f j a0 → ∃ J', Inv (j + 1) J' ∧ L k (mk J) a.1 a.2.1 a.2.2.1 a.2.2.2 (nI j) = k (mk J') (f j a).1 (f j a).2.1 (f j a).2.2.1 (f j a).2.2.2 (nI (j + 1))) (J : St) (h0 : Inv 0 J) (n : Nat) (hn : N < n) : ∃ J', Inv N J' ∧ B n (mk J) a0.1 a0.2.1 a0.2.2.1 a0.2.2.2 (nI 0) = X (fold f N a0) J' :=
  loop1z mk (fun n S t i => B n S t.1 t.2.1 t.2.2.1 t.2.2.2 i) (fun k S t i => L (fun S a b c d i => k S (a, b, c, d) i) S t.1 t.2.1 t.2.2.1 t.2.2.2 i) (fun n => by funext S t i; exact congrFun (congrFun (congrFun (congrFun (congrFun (congrFun (hB n) S) _) _) _) _) i) N f a0 Inv X
    (fun k J hi => hx _ J hi _ rfl) (fun k J j hj hi => hs _ J j hj hi _ rfl) J h0 n hn
def twf (v : Ev) (p : Nat) (a : Int32 × Int32 × Int32 × Int32) : Int32 × Int32 × Int32 × Int32 := (if sBeats v p ≤ a.2.1 then a.1 else nI p, if sBeats v p ≤ a.2.1 then a.2.1 else sBeats v p, a.2.2.1 ||| (if sBeats v p = 0 then (1 : Int32) <<< (nI p &&& 31) else 0), a.2.2.2 ||| sCaught v p (sBeats v p))
theorem twf_eq {v : Ev} : ∀ n, fold (twf v) n (-1, 0, 0, 0) = ((fold (fun p ab => if sBeats v p ≤ ab.2 then ab else (nI p, sBeats v p)) n ((-1 : Int32), (0 : Int32))).1, (fold (fun p ab => if sBeats v p ≤ ab.2 then ab else (nI p, sBeats v p)) n ((-1 : Int32), (0 : Int32))).2, fold (fun p s => s ||| (if sBeats v p = 0 then (1 : Int32) <<< (nI p &&& 31) else 0)) n 0, fold (fun p s => s ||| sCaught v p (sBeats v p)) n 0)
  | 0 => rfl
  | n + 1 => by
    show twf v n (fold (twf v) n (-1, 0, 0, 0)) = _
    rw [twf_eq n]
    show _ = ((if sBeats v n ≤ (fold (fun p ab => if sBeats v p ≤ ab.2 then ab else (nI p, sBeats v p)) n ((-1 : Int32), (0 : Int32))).2 then _ else _ : Int32 × Int32).1, (if sBeats v n ≤ (fold (fun p ab => if sBeats v p ≤ ab.2 then ab else (nI p, sBeats v p)) n ((-1 : Int32), (0 : Int32))).2 then _ else _ : Int32 × Int32).2, _, _)
    unfold twf
    by_cases h : sBeats v n ≤ (fold (fun p ab => if sBeats v p ≤ ab.2 then ab else (nI p, sBeats v p)) n ((-1 : Int32), (0 : Int32))).2
    · rw [if_pos h]
      simp only [if_pos h]
      rfl
    · rw [if_neg h]
      simp only [if_neg h]
      rfl
theorem m_townL {J : Nat → Nat → Int32} {v : Ev} {fu : Nat} {x1 : Int32} (hM : RM J v) (hok : okEv v) (hfu : 200 < fu) : ∃ J', sme [18, 19] J J' ∧ B_X8_town_25 fu 0 x1 fu (mkM J) (-1) 0 0 0 (nI 0) = (if x1 = 0 then b2 (F_X8_beatsAll fu (mkM J') 0) (fun v110 S110 => B_X8_town_137 fu 0 S110 v110) else if x1 = 1 then B_X8_town_137 fu 0 (mkM J') (sLoud v).1 else if x1 = 2 then B_X8_town_137 fu 0 (mkM J') (sSil v) else B_X8_town_137 fu 0 (mkM J') (sCat v)) := by
  obtain ⟨hP, hP6⟩ := RM_P hM
  obtain ⟨J', hi, h⟩ := loop4z mkM (B_X8_town_25 fu 0 x1) (fun k => L_X8_town_25 k fu 0 x1) (fun n => rfl) (vP v) (twf v) (-1, 0, 0, 0) (fun _ J' => sme [18, 19] J J') (fun a J' => if x1 = 0 then b2 (F_X8_beatsAll fu (mkM J') 0) (fun v110 S110 => B_X8_town_137 fu 0 S110 v110) else if x1 = 1 then B_X8_town_137 fu 0 (mkM J') a.1 else if x1 = 2 then B_X8_town_137 fu 0 (mkM J') a.2.2.1 else B_X8_town_137 fu 0 (mkM J') a.2.2.2) (by
    intro k J' hi a _
    unfold L_X8_town_25
    rw [M_gI, bind_some', sme8 hi (by decide), hP, if_pos (nI_le (Nat.le_refl _) (by omega)), M_ob, bind_some']) (by
    intro k J' j hj hi a _
    have hM' := RM_sme hM hi (by decide)
    obtain ⟨J1, t1, m1⟩ := m_beatsOf (fu := fu) hM' hj hfu
    refine ⟨J1, sme_tr hi t1, ?_⟩
    unfold L_X8_town_25 B_X8_town_54 B_X8_town_67 B_X8_town_83 twf
    rw [M_gI, bind_some', sme8 hi (by decide), hP, if_neg (nI_ge hj (by omega)), M_ob, bind_some', m1, b2_some, nI_1, M_ob, bind_some', bind_some', m_caughtBy (RM_sme hM' t1 (by decide)) hj hfu, b2_some, b2_some]
    by_cases h1 : sBeats v j ≤ a.2.1
    · by_cases h2 : sBeats v j = 0
      · simp only [if_pos h1, if_pos h2]
      · simp only [if_pos h1, if_neg h2]
    · by_cases h2 : sBeats v j = 0
      · simp only [if_neg h1, if_pos h2, bind_some', b2_some]
      · simp only [if_neg h1, if_neg h2, bind_some', b2_some]) J sme_rf fu (by omega)
  refine ⟨J', hi, ?_⟩
  rw [twf_eq] at h
  exact h
theorem al_town {fu : Nat} (hfu : 200 < fu) : Al_town Rel fu := by
  rintro SX SM ⟨q, I, J, v, rfl, rfl, h⟩ a1
  have hX := Rv_X h
  have hM := Rv_M h
  have hok := h.2.2.1
  obtain ⟨J1, t1, m1⟩ := m_townL (fu := fu) (x1 := a1) hM hok hfu
  have hM1 := RM_sme hM t1 (by decide)
  unfold F_X7_town F_X8_town
  have e3 : F_X8_in (mkM J) a1 0 3 = some (bI (inb a1 4), mkM J) := m_in0 (by decide)
  rw [e3, b2_some]
  by_cases h0 : a1 = 0
  · obtain ⟨I1, s1, x1⟩ := x_beatsOfAll (fu := fu) eE1 hX hok hfu
    obtain ⟨J2, t2, m2⟩ := m_beatsAll (fu := fu) hM1 hfu
    rw [if_pos h0] at m1
    exact ⟨sAll v, _, _, by rw [if_pos h0, X_r0, bind_some', E_ob eE1, bind_some', x1, b2_some], by rw [h0, show inb 0 4 = true from rfl, if_neg bIt]; rw [h0] at m1; refine m1.trans ?_; rw [m2]; rfl, q, I1, J2, v, rfl, rfl, Rv_mono h (EC_8 (Or.inl rfl) s1) (sm0_tr (sm0_of t1 (by decide)) (sm0_of t2 (by decide)))⟩
  by_cases h1 : a1 = 1
  · obtain ⟨I1, s1, x1⟩ := x_loudest (fu := fu) eE1 hX hok hfu
    rw [if_neg h0, if_pos h1] at m1
    exact ⟨(sLoud v).1, _, _, by rw [if_neg h0, if_pos h1, X_r0, bind_some', E_ob eE1, bind_some', x1, b2_some], by rw [h1, show inb 1 4 = true from rfl, if_neg bIt]; rw [h1] at m1; exact m1, q, I1, J1, v, rfl, rfl, Rv_mono h (EC_8 (Or.inl rfl) s1) (sm0_of t1 (by decide))⟩
  by_cases h2 : a1 = 2
  · obtain ⟨I1, s1, x1⟩ := x_silent (fu := fu) eE1 hX hok hfu
    rw [if_neg h0, if_neg h1, if_pos h2] at m1
    exact ⟨sSil v, _, _, by rw [if_neg h0, if_neg h1, if_pos h2, X_r0, bind_some', E_ob eE1, bind_some', x1, b2_some], by rw [h2, show inb 2 4 = true from rfl, if_neg bIt]; rw [h2] at m1; exact m1, q, I1, J1, v, rfl, rfl, Rv_mono h (EC_8 (Or.inl rfl) s1) (sm0_of t1 (by decide))⟩
  by_cases h3 : a1 = 3
  · obtain ⟨I1, s1, x1⟩ := x_catchersOfAnybody (fu := fu) eE1 hX hok hfu
    rw [if_neg h0, if_neg h1, if_neg h2] at m1
    exact ⟨sCat v, _, _, by rw [if_neg h0, if_neg h1, if_neg h2, if_pos h3, X_r0, bind_some', E_ob eE1, bind_some', x1, b2_some], by rw [h3, show inb 3 4 = true from rfl, if_neg bIt]; rw [h3] at m1; exact m1, q, I1, J1, v, rfl, rfl, Rv_mono h (EC_L (Or.inl rfl) s1) (sm0_of t1 (by decide))⟩
  have hb : inb a1 4 = false := by
    cases hb : inb a1 4 with
    | false => rfl
    | true =>
      obtain ⟨n, hn, rfl⟩ := inb_of hb (by decide)
      rcases (show n = 0 ∨ n = 1 ∨ n = 2 ∨ n = 3 by omega) with rfl | rfl | rfl | rfl
      · exact absurd rfl h0
      · exact absurd rfl h1
      · exact absurd rfl h2
      · exact absurd rfl h3
  exact ⟨-2, _, _, by rw [if_neg h0, if_neg h1, if_neg h2, if_neg h3], by rw [hb, if_pos bIf], q, I, J, v, rfl, rfl, h⟩
theorem kd_n : ∀ c, c < 60 → nI c / 10 = nI (c / 10) ∧ nI c - nI c / 10 * 10 = nI (c - c / 10 * 10) := by decide +kernel
def addP (v : Ev) (k m r : Int32) : Ev := (vP v + 1, vW v, vDay v, updf (vKind v) (vP v) k, updf (vMore v) (vP v) m, updf (vPride v) (vP v) r, updf (vName v) (vP v) 500, vDo v, vWt v, vSw v, vCode v, vBnd v)
theorem updf_s {f : Nat → Int32} {p : Nat} {x : Int32} : updf f p x p = x := if_pos rfl
theorem updf_o {f : Nat → Int32} {p i : Nat} {x : Int32} (h : i ≠ p) : updf f p x i = f i := if_neg h
theorem al_person {fu : Nat} : Al_person Rel fu := by
  rintro SX SM ⟨q, I, J, v, rfl, rfl, h⟩ a1 a2
  obtain ⟨hPX, hP6⟩ := h.1.1
  obtain ⟨hPM, -⟩ := h.2.1.1
  unfold F_X7_person F_X8_person B_X7_person_18 B_X8_person_20
  rw [lit 60, x_fits (by decide), b2_some, lit 59, m_in0 (by decide), b2_some]
  cases hb : inb a1 60 with
  | false => exact ⟨-2, _, _, by rw [if_pos bIf], by rw [if_pos bIf], q, I, J, v, rfl, rfl, h⟩
  | true =>
    rw [if_neg bIt, if_neg bIt, lit 100, x_fits (by decide), b2_some, lit 99, m_in0 (by decide), b2_some]
    cases hb2 : inb a2 100 with
    | false => exact ⟨-2, _, _, by rw [if_pos bIf], by rw [if_pos bIf], q, I, J, v, rfl, rfl, h⟩
    | true =>
      obtain ⟨c, hc, rfl⟩ := inb_of hb (by decide)
      obtain ⟨r, hr, rfl⟩ := inb_of hb2 (by decide)
      obtain ⟨k1, k2⟩ := kd_n c hc
      rw [if_neg bIt, if_neg bIt, X_r0, bind_some', E_ob eE1, bind_some', k2, k1, M_gI, bind_some', hPM]
      unfold F_X0_welcome B_X7_person_54
      rw [E_gI eE1, bind_some', hPX, lit 6, eq_iff_nI (by omega) (by decide)]
      by_cases h6 : vP v = 6
      · exact ⟨-4, _, _, by rw [if_neg (nI_nlt (by omega) (by omega)), show zb (0 : Int32) (mkX q I) = some (0, mkX q I) from rfl, b2_some, if_pos rfl], by rw [if_pos h6], q, I, J, v, rfl, rfl, h⟩
      · rw [if_pos (nI_lt (by omega) (by decide)), if_neg h6, E_r1 eE1, bind_some', bind_some', E_s1 eE1 (by omega), bind_some', E_r2 eE1, bind_some', E_gI eE1, bind_some', up2_o (by decide), hPX, E_s2 eE1 (by omega), bind_some', E_r3 eE1, bind_some', E_gI eE1, bind_some', up2_o (by decide), up2_o (by decide), hPX, E_s3 eE1 (by omega), bind_some', E_r4 eE1, bind_some', E_gI eE1, bind_some', up2_o (by decide), up2_o (by decide), up2_o (by decide), hPX, E_s4 eE1 (by omega), bind_some', E_gI eE1, bind_some', up2_o (by decide), up2_o (by decide), up2_o (by decide), up2_o (by decide), hPX, nI_1, E_pI eE1, bind_some', show ∀ S, zb (1 : Int32) S = some (1, S) from fun _ => rfl, b2_some, if_neg (by decide), X_r0, bind_some', E_gI eE1, bind_some', up2_s]
        rw [M_r1, bind_some', bind_some', M_p1 (by omega), bind_some', M_r2, bind_some', M_gI, bind_some', up2_o (by decide), hPM, M_p2 (by omega), bind_some', M_r3, bind_some', M_gI, bind_some', up2_o (by decide), up2_o (by decide), hPM, lit 2, nI_mul, M_p3 (by omega), bind_some', M_r3, bind_some', M_gI, bind_some', up2_o (by decide), up2_o (by decide), up2_o (by decide), hPM, nI_mul, nI_1, M_p3 (by omega), bind_some', M_gI, bind_some', up2_o (by decide), up2_o (by decide), up2_o (by decide), up2_o (by decide), hPM, nI_1, M_pI, bind_some', M_gI, bind_some', up2_s]
        refine ⟨nI (vP v + 1) - 1, _, _, rfl, rfl, q, _, _, addP v (nI (c / 10)) (nI (c - c / 10 * 10)) (nI r), rfl, rfl, ?_⟩
        refine Rv_ev (v' := addP v (nI (c / 10)) (nI (c - c / 10 * 10)) (nI r)) h ⟨⟨up2_s, by show vP v + 1 ≤ 6; omega⟩, ?_, ?_, ?_, ?_⟩ ⟨⟨up2_s, by show vP v + 1 ≤ 6; omega⟩, ?_, ?_, ?_, ?_⟩ ⟨?_, h.2.2.1.2⟩ h.2.2.2.1 ⟨rfl, rfl, rfl⟩ ?_ ?_ ?_ ?_ ?_ ?_ ?_
        · exact h.1.2.1
        · exact h.1.2.2.1
        · intro i hi
          have hi : i < vP v + 1 := hi
          show up2 _ _ _ _ _ _ = updf _ _ _ _ ∧ up2 _ _ _ _ _ _ = updf _ _ _ _ ∧ up2 _ _ _ _ _ _ = updf _ _ _ _ ∧ up2 _ _ _ _ _ _ = updf _ _ _ _
          by_cases hip : i = vP v
          · subst hip
            rw [updf_s, updf_s, updf_s, updf_s]
            refine ⟨?_, ?_, ?_, ?_⟩
            · rw [up2_o (by decide), up2_o (by decide), up2_o (by decide), up2_o (by decide), up2_s]
            · rw [up2_o (by decide), up2_o (by decide), up2_o (by decide), up2_s]
            · rw [up2_o (by decide), up2_o (by decide), up2_s]
            · rw [up2_o (by decide), up2_s]
          · obtain ⟨y1, y2, y3, y4⟩ := h.1.2.2.2.1 i (by omega)
            rw [updf_o hip, updf_o hip, updf_o hip, updf_o hip]
            refine ⟨?_, ?_, ?_, ?_⟩
            · rw [up2_o (by decide), up2_o (by decide), up2_o (by decide), up2_o (by decide), up2_j hip]; exact y1
            · rw [up2_o (by decide), up2_o (by decide), up2_o (by decide), up2_j hip, up2_o (by decide)]; exact y2
            · rw [up2_o (by decide), up2_o (by decide), up2_j hip, up2_o (by decide), up2_o (by decide)]; exact y3
            · rw [up2_o (by decide), up2_j hip, up2_o (by decide), up2_o (by decide), up2_o (by decide)]; exact y4
        · exact h.1.2.2.2.2
        · exact h.2.1.2.1
        · exact h.2.1.2.2.1
        · intro i hi
          have hi : i < vP v + 1 := hi
          show up2 _ _ _ _ _ _ = updf _ _ _ _ ∧ up2 _ _ _ _ _ _ = updf _ _ _ _ ∧ up2 _ _ _ _ _ _ = updf _ _ _ _ ∧ up2 _ _ _ _ _ _ = updf _ _ _ _
          by_cases hip : i = vP v
          · subst hip
            rw [updf_s, updf_s, updf_s, updf_s]
            refine ⟨?_, ?_, ?_, ?_⟩
            · rw [up2_o (by decide), up2_o (by decide), up2_o (by decide), up2_o (by decide), up2_s]
            · rw [up2_o (by decide), up2_o (by decide), up2_o (by decide), up2_s]
            · rw [up2_o (by decide), up2_j (by omega), up2_s]
            · rw [up2_o (by decide), up2_s]
          · obtain ⟨y1, y2, y3, y4⟩ := h.2.1.2.2.2.1 i (by omega)
            rw [updf_o hip, updf_o hip, updf_o hip, updf_o hip]
            refine ⟨?_, ?_, ?_, ?_⟩
            · rw [up2_o (by decide), up2_o (by decide), up2_o (by decide), up2_o (by decide), up2_j hip]; exact y1
            · rw [up2_o (by decide), up2_o (by decide), up2_o (by decide), up2_j hip, up2_o (by decide)]; exact y2
            · rw [up2_o (by decide), up2_j (by omega), up2_j (by omega), up2_o (by decide), up2_o (by decide)]; exact y3
            · rw [up2_o (by decide), up2_j (by omega), up2_j (by omega), up2_o (by decide), up2_o (by decide)]; exact y4
        · exact h.2.1.2.2.2.2
        · intro i hi
          have hi : i < vP v + 1 := hi
          show (∃ k, k < 6 ∧ updf _ _ _ _ = nI k) ∧ (∃ k, k < 10 ∧ updf _ _ _ _ = nI k) ∧ (∃ k, k < 100 ∧ updf _ _ _ _ = nI k) ∧ ∃ k, k < 1000 ∧ updf _ _ _ _ = nI k
          by_cases hip : i = vP v
          · subst hip
            rw [updf_s, updf_s, updf_s, updf_s]
            exact ⟨⟨_, by omega, rfl⟩, ⟨_, by omega, rfl⟩, ⟨_, hr, rfl⟩, ⟨500, by omega, rfl⟩⟩
          · rw [updf_o hip, updf_o hip, updf_o hip, updf_o hip]
            exact h.2.2.1.1 i (by omega)
        · obtain ⟨r', c1, c2, c3, c4⟩ := h.2.2.2.2.1
          exact ⟨r', c1, c2, c3, LT_mono c4 (funext fun b => by rw [up2_o (by omega), up2_o (by omega), up2_o (by omega), up2_o (by omega), up2_o (by omega)]) (funext fun b => by rw [up2_o (by omega), up2_o (by omega), up2_o (by omega), up2_o (by omega), up2_o (by omega)]) rfl rfl⟩
        · intro a ha
          funext b
          rw [up2_o (EC_lo ha 1 (by omega) (by omega)), up2_o (EC_lo ha 5 (by omega) (by omega)), up2_o (EC_lo ha 4 (by omega) (by omega)), up2_o (EC_lo ha 3 (by omega) (by omega)), up2_o (EC_lo ha 2 (by omega) (by omega))]
        · intro a h7 _
          funext b
          rw [up2_o (by omega), up2_o (by omega), up2_o (by omega), up2_o (by omega), up2_o (by omega)]
        · rfl
        · rfl
        · rfl
        · exact fun w hw => IMG_same hw rfl rfl (by show vP v ≤ vP v + 1; omega) (fun p hp => ⟨updf_o (by omega), updf_o (by omega)⟩)
