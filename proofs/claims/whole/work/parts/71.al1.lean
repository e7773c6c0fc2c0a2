/-! promises, people and wrongs -/
theorem inC {x : Int32} {m : Nat} (hm : m < 2 ^ 30) : decide ((0 : Int32) ≤ x ∧ x ≤ nI m) = inb x (m + 1) := by
  rw [Bool.eq_iff_iff, inb_iff, decide_eq_true_iff, le_I, le_I]
  have e0 : (0 : Int32).toInt = 0 := rfl
  have en : (nI m).toInt = (m : Int) := nI_toInt (by omega)
  rw [e0, en]
  omega
theorem m_in0 {S : Hp} {x : Int32} {m : Nat} (hm : m < 2 ^ 30) : F_X8_in S x 0 (nI m) = some (bI (inb x (m + 1)), S) := by
  rw [m_in, inC hm]
theorem x_hasPerson {q : Xp} {I : Nat → Nat → Int32} {v : Ev} {x : Int32} {e : Nat} (he : isE e) (h : EX I e v) : F_X0_hasPerson (mkX q I) e x = some (bI (inb x (vP v)), mkX q I) := by
  have h6 := h.1.2
  unfold F_X0_hasPerson
  rw [E_gI he, bind_some', h.1.1, x_fits (by omega), b2_some, zb_bI]
theorem x_hasWrong {q : Xp} {I : Nat → Nat → Int32} {v : Ev} {x : Int32} {e : Nat} (he : isE e) (h : EX I e v) : F_X0_hasWrong (mkX q I) e x = some (bI (inb x (vW v)), mkX q I) := by
  have h6 := h.2.1.2
  unfold F_X0_hasWrong
  rw [E_gI he, bind_some', h.2.1.1, x_fits (by omega), b2_some, zb_bI]
theorem bIf : (bI false = 0) := rfl
theorem bIt : ¬ (bI true = 0) := by decide
theorem Rv_ev {q q' : Xp} {I I' J J' : Nat → Nat → Int32} {v v' : Ev} (h : Rv q I J v) (hx : EX I' 1 v') (hm : EM J' v') (ok : okEv v') (day : okDay v') (hq : q'.1 = q.1 ∧ q'.2.1 = q.2.1 ∧ q'.2.2.2.2 = q.2.2.2.2) (hl : CL q' I' J' v') (fI : ∀ a, a = 0 ∨ (9 ≤ a ∧ ¬ EC a) → I' a = I a) (fJ : ∀ a, 7 ≤ a → a ≤ 16 → J' a = J a) (j10 : J' 0 10 = J 0 10) (j13 : J' 0 13 = J 0 13) (j15 : J' 0 15 = J 0 15) (hw : ∀ w, IMG J v w → IMG J' v' w) : Rv q' I' J' v' := by
  have f2 : ∀ a, 23 ≤ a → a ≤ 30 → I' a = I a := fun a h1 h2 => fI a (Or.inr ⟨by omega, fun q => by unfold EC ES at q; omega⟩)
  have f3 : ∀ a, 34 ≤ a → a ≤ 35 → I' a = I a := fun a h1 h2 => fI a (Or.inr ⟨by omega, fun q => by unfold EC ES at q; omega⟩)
  have f4 : ∀ a, 45 ≤ a → a ≤ 52 → I' a = I a := fun a h1 h2 => fI a (Or.inr ⟨by omega, fun q => by unfold EC ES at q; omega⟩)
  have f5 : ∀ a, 53 ≤ a → ¬ a % 4 = 0 → I' a = I a := fun a h1 h2 => fI a (Or.inr ⟨by omega, fun q => by unfold EC ES at q; omega⟩)
  have lt : ∀ {r c b}, LT q I J r c b → LT q' I' J' r c b := by
    intro r c b h
    have := LT_mono h (f5 _ (by omega) (by omega)) (f5 _ (by omega) (by omega)) (fJ 9 (by omega) (by omega)) (fJ 8 (by omega) (by omega))
    unfold LT at this ⊢
    rw [hq.1, hq.2.1]
    exact this
  obtain ⟨-, -, -, -, -, ⟨t1, t2, t3, t4, t5⟩, ⟨n, n1, n2, n3, n4⟩, a8, ⟨i1, i2⟩, a10⟩ := h
  refine ⟨hx, hm, ok, day, hl, ⟨?_, ?_, ?_, ?_, fun t ht => ?_⟩, ⟨n, n1, ?_, ?_, ?_⟩, ?_, ⟨?_, ?_⟩, ?_⟩
  · rw [hq.1]; exact t1
  · rw [hq.1]; exact t2
  · rw [hq.1, fI 0 (Or.inl rfl)]; exact t3
  · rw [hq.1, j13]; exact t4
  · obtain ⟨c, b, hcb⟩ := t5 t (by rw [← hq.1]; exact ht)
    exact ⟨c, b, lt hcb⟩
  · rw [f3 34 (by omega) (by omega)]; exact n2
  · rw [j10]; exact n3
  · rw [f3 35 (by omega) (by omega), fJ 7 (by omega) (by omega)]; exact n4
  · intro s hs4
    rw [f4 (45 + 2 * s) (by omega) (by omega), f4 (46 + 2 * s) (by omega) (by omega), fJ 12 (by omega) (by omega), fJ 13 (by omega) (by omega), fJ 14 (by omega) (by omega)]
    exact a8 s hs4
  · rw [fI 0 (Or.inl rfl), j15]; exact i1
  · rw [j15]
    rcases i2 with h | ⟨h, w, w1, w2, w3, w4, r', l1, l2, l3, l4⟩
    · exact Or.inl h
    · refine Or.inr ⟨h, w, EX_mono w1 (fun i hi => f2 _ (by omega) (by omega)), w2, w3, hw w w4, r', ?_, ?_, ?_, lt l4⟩
      · rw [f2 23 (by omega) (by omega)]; exact l1
      · rw [fJ 11 (by omega) (by omega)]; exact l2
      · rw [hq.2.2]; exact l3
  · rw [fJ 16 (by omega) (by omega)]; exact a10
theorem al_deed {fu : Nat} : Al_deed Rel fu := by
  rintro SX SM ⟨q, I, J, v, rfl, rfl, h⟩ a1 a2
  have hX := Rv_X h
  have hM := Rv_M h
  have hE := h.1
  have hW := hM.2.1
  unfold F_X7_deed F_X8_deed B_X8_deed_54
  rw [X_r0, bind_some', E_ob eE1, bind_some', x_hasWrong eE1 hE, b2_some, M_ob, bind_some', m_isWrong hW.1 hW.2, b2_some]
  cases hb : inb a1 (vW v) with
  | false => exact ⟨-5, _, _, by rw [if_pos bIf], by rw [if_pos bIf], q, I, J, v, rfl, rfl, h⟩
  | true =>
    obtain ⟨k, hk, rfl⟩ := inb_of hb (by omega)
    obtain ⟨x1, x2, x3⟩ := hE.2.2.2.2 k hk
    obtain ⟨m1, m2, m3⟩ := RM_k hM hk
    rw [if_neg bIt, if_neg bIt]
    by_cases h0 : a2 = 0
    · exact ⟨vDo v k, _, _, by rw [if_pos h0, X_r0, bind_some', E_r6 eE1, bind_some', E_a5 eE1 (by omega), b2_some, x1], by rw [if_pos h0, M_r4, bind_some', M_g4 (by omega), bind_some', m1], q, I, J, v, rfl, rfl, h⟩
    by_cases h1 : a2 = 1
    · exact ⟨vWt v k, _, _, by rw [if_neg h0, if_pos h1, X_r0, bind_some', E_r7 eE1, bind_some', E_a6 eE1 (by omega), b2_some, x2], by rw [if_neg h0, if_pos h1, M_r5, bind_some', M_g5 (by omega), bind_some', m2], q, I, J, v, rfl, rfl, h⟩
    by_cases h2 : a2 = 2
    · exact ⟨vSw v k, _, _, by rw [if_neg h0, if_neg h1, if_pos h2, X_r0, bind_some', E_r8 eE1, bind_some', E_a7 eE1 (by omega), b2_some, x3], by rw [if_neg h0, if_neg h1, if_pos h2, M_r6, bind_some', M_g6 (by omega), bind_some', m3], q, I, J, v, rfl, rfl, h⟩
    exact ⟨-7, _, _, by rw [if_neg h0, if_neg h1, if_neg h2], by rw [if_neg h0, if_neg h1, if_neg h2], q, I, J, v, rfl, rfl, h⟩
def setN (v : Ev) (f : Nat → Int32) : Ev := (vP v, vW v, vDay v, vKind v, vMore v, vPride v, f, vDo v, vWt v, vSw v, vCode v, vBnd v)
def setP (v : Ev) (f : Nat → Int32) : Ev := (vP v, vW v, vDay v, vKind v, vMore v, f, vName v, vDo v, vWt v, vSw v, vCode v, vBnd v)
def updf (f : Nat → Int32) (p : Nat) (x : Int32) (i : Nat) : Int32 := if i = p then x else f i
theorem EC_lo {a : Nat} (h : a = 0 ∨ (9 ≤ a ∧ ¬ EC a)) (b : Nat) (h1 : 1 ≤ b) (h2 : b ≤ 8) : a ≠ b := by omega
theorem IMG_same {J J' : Nat → Nat → Int32} {v v' w : Ev} (h : IMG J v w) (h10 : J' 10 = J 10) (h11 : J' 11 = J 11) (hp : vP v ≤ vP v') (hk : ∀ p, p < vP v → vKind v' p = vKind v p ∧ vMore v' p = vMore v p) : IMG J' v' w := by
  obtain ⟨g1, g2, g3, g4, g5, g6⟩ := h
  unfold IMG
  rw [h10, h11]
  refine ⟨by omega, g2, g3, g4, fun p hp' => ?_, g6⟩
  obtain ⟨k1, k2, k3, k4⟩ := g5 p hp'
  obtain ⟨l1, l2⟩ := hk p (by omega)
  exact ⟨l1.trans k1, l2.trans k2, k3, k4⟩
theorem al_put {fu : Nat} : Al_put Rel fu := by
  rintro SX SM ⟨q, I, J, v, rfl, rfl, h⟩ a1 a2 a3
  have hM := Rv_M h
  have hE := h.1
  have hP := hM.1
  unfold F_X7_put F_X8_put
  rw [X_r0, bind_some', E_ob eE1, bind_some', x_hasPerson eE1 hE, b2_some, M_ob, bind_some', m_isOne hP.1 hP.2, b2_some]
  cases hb : inb a1 (vP v) with
  | false => exact ⟨-5, _, _, by rw [if_pos bIf], by rw [if_pos bIf], q, I, J, v, rfl, rfl, h⟩
  | true =>
    obtain ⟨p, hp, rfl⟩ := inb_of hb (by omega)
    obtain ⟨x1, x2, x3, x4⟩ := hE.2.2.2.1 p hp
    obtain ⟨m1, m2, m3, m4⟩ := RM_p hM hp
    rw [if_neg bIt, if_neg bIt, x_zo, b2_some, lit 1, m_in0 (by decide), b2_some]
    cases hb2 : inb a2 2 with
    | false => exact ⟨-7, _, _, by rw [if_pos bIf]; rfl, by rw [if_pos bIf]; rfl, q, I, J, v, rfl, rfl, h⟩
    | true =>
      obtain ⟨b, hb', rfl⟩ := inb_of hb2 (by omega)
      rw [if_neg bIt, if_neg bIt]
      unfold B_X7_put_34 B_X8_put_34 B_X7_put_40 B_X8_put_40 B_X7_put_64
      rcases (show b = 0 ∨ b = 1 by omega) with rfl | rfl
      · rw [if_pos (show nI 0 = 0 from rfl), if_pos (show nI 0 = 0 from rfl), lit 100, x_fits (by decide), b2_some, lit 99, m_in0 (by decide), b2_some]
        cases hb3 : inb a3 100 with
        | false => exact ⟨-7, _, _, by rw [if_pos bIf], by rw [if_pos bIf], q, I, J, v, rfl, rfl, h⟩
        | true =>
          obtain ⟨r, hr, rfl⟩ := inb_of hb3 (by omega)
          refine ⟨vPride v p, _, _, by rw [if_neg bIt, if_pos (show nI 0 = 0 from rfl), X_r0, bind_some', E_r3 eE1, bind_some', E_a3 eE1 (by omega), b2_some, x3, E_s3 eE1 (by omega), bind_some'], by rw [if_neg bIt, M_r3, bind_some', lit 2, nI_mul, nI_add, M_g3 (by omega), bind_some', bind_some', M_p3 (by omega), bind_some', Nat.add_zero, m3], q, _, _, setP v (updf (vPride v) p (nI r)), rfl, rfl, ?_⟩
          refine Rv_ev h ⟨h.1.1, h.1.2.1, h.1.2.2.1, fun i hi => ?_, h.1.2.2.2.2⟩ ⟨h.2.1.1, h.2.1.2.1, h.2.1.2.2.1, fun i hi => ?_, h.2.1.2.2.2.2⟩ ⟨fun i hi => ?_, h.2.2.1.2⟩ h.2.2.2.1 ⟨rfl, rfl, rfl⟩ ?_ (fun a ha => funext fun b => up2_o (EC_lo ha 4 (by omega) (by omega))) (fun a h7 _ => funext fun b => up2_o (by omega)) rfl rfl rfl (fun w hw => IMG_same hw rfl rfl (Nat.le_refl _) (fun _ _ => ⟨rfl, rfl⟩))
          · obtain ⟨y1, y2, y3, y4⟩ := hE.2.2.2.1 i hi
            refine ⟨y1, y2, ?_, y4⟩
            show up2 I 4 p (nI r) 4 i = updf (vPride v) p (nI r) i
            unfold updf
            by_cases hip : i = p
            · rw [if_pos hip, hip, up2_s]
            · rw [if_neg hip, up2_j hip]; exact y3
          · obtain ⟨y1, y2, y3, y4⟩ := RM_p hM hi
            refine ⟨y1, y2, ?_, ?_⟩
            · show up2 J 3 (2 * p) (nI r) 3 (2 * i) = updf (vPride v) p (nI r) i
              unfold updf
              by_cases hip : i = p
              · rw [if_pos hip, hip, up2_s]
              · rw [if_neg hip, up2_j (by omega)]; exact y3
            · show up2 J 3 (2 * p) (nI r) 3 (2 * i + 1) = vName v i
              rw [up2_j (by omega)]; exact y4
          · obtain ⟨y1, y2, y3, y4⟩ := h.2.2.1.1 i hi
            refine ⟨y1, y2, ?_, y4⟩
            show ∃ z, z < 100 ∧ updf (vPride v) p (nI r) i = nI z
            unfold updf
            by_cases hip : i = p
            · rw [if_pos hip]; exact ⟨r, hr, rfl⟩
            · rw [if_neg hip]; exact y3
          · obtain ⟨r', c1, c2, c3, c4⟩ := h.2.2.2.2.1
            exact ⟨r', c1, c2, c3, LT_mono c4 (funext fun b => up2_o (by omega)) (funext fun b => up2_o (by omega)) rfl rfl⟩
      · rw [if_neg (show ¬ nI 1 = 0 by decide), if_neg (show ¬ nI 1 = 0 by decide), lit 1000, x_fits (by decide), b2_some, lit 999, m_in0 (by decide), b2_some]
        cases hb3 : inb a3 1000 with
        | false => exact ⟨-7, _, _, by rw [if_pos bIf], by rw [if_pos bIf], q, I, J, v, rfl, rfl, h⟩
        | true =>
          obtain ⟨r, hr, rfl⟩ := inb_of hb3 (by omega)
          refine ⟨vName v p, _, _, by rw [if_neg bIt, if_neg (show ¬ nI 1 = 0 by decide), X_r0, bind_some', E_r4 eE1, bind_some', E_a4 eE1 (by omega), b2_some, x4, E_s4 eE1 (by omega), bind_some'], by rw [if_neg bIt, M_r3, bind_some', lit 2, nI_mul, nI_add, M_g3 (by omega), bind_some', bind_some', M_p3 (by omega), bind_some', m4], q, _, _, setN v (updf (vName v) p (nI r)), rfl, rfl, ?_⟩
          refine Rv_ev h ⟨h.1.1, h.1.2.1, h.1.2.2.1, fun i hi => ?_, h.1.2.2.2.2⟩ ⟨h.2.1.1, h.2.1.2.1, h.2.1.2.2.1, fun i hi => ?_, h.2.1.2.2.2.2⟩ ⟨fun i hi => ?_, h.2.2.1.2⟩ h.2.2.2.1 ⟨rfl, rfl, rfl⟩ ?_ (fun a ha => funext fun b => up2_o (EC_lo ha 5 (by omega) (by omega))) (fun a h7 _ => funext fun b => up2_o (by omega)) rfl rfl rfl (fun w hw => IMG_same hw rfl rfl (Nat.le_refl _) (fun _ _ => ⟨rfl, rfl⟩))
          · obtain ⟨y1, y2, y3, y4⟩ := hE.2.2.2.1 i hi
            refine ⟨y1, y2, y3, ?_⟩
            show up2 I 5 p (nI r) 5 i = updf (vName v) p (nI r) i
            unfold updf
            by_cases hip : i = p
            · rw [if_pos hip, hip, up2_s]
            · rw [if_neg hip, up2_j hip]; exact y4
          · obtain ⟨y1, y2, y3, y4⟩ := RM_p hM hi
            refine ⟨y1, y2, ?_, ?_⟩
            · show up2 J 3 (2 * p + 1) (nI r) 3 (2 * i) = vPride v i
              rw [up2_j (by omega)]; exact y3
            · show up2 J 3 (2 * p + 1) (nI r) 3 (2 * i + 1) = updf (vName v) p (nI r) i
              unfold updf
              by_cases hip : i = p
              · rw [if_pos hip, hip, up2_s]
              · rw [if_neg hip, up2_j (by omega)]; exact y4
          · obtain ⟨y1, y2, y3, y4⟩ := h.2.2.1.1 i hi
            refine ⟨y1, y2, y3, ?_⟩
            show ∃ z, z < 1000 ∧ updf (vName v) p (nI r) i = nI z
            unfold updf
            by_cases hip : i = p
            · rw [if_pos hip]; exact ⟨r, hr, rfl⟩
            · rw [if_neg hip]; exact y4
          · obtain ⟨r', c1, c2, c3, c4⟩ := h.2.2.2.2.1
            exact ⟨r', c1, c2, c3, LT_mono c4 (funext fun b => up2_o (by omega)) (funext fun b => up2_o (by omega)) rfl rfl⟩
theorem m_within_L {J : Nat → Nat → Int32} {v : Ev} {q : Xp} {I : Nat → Nat → Int32} (h : Rv q I J v) {J' : Nat → Nat → Int32} (hs : sme [18, 19] J J') : sm0 J J' := sm0_of hs (by decide)
theorem al_dusk {fu : Nat} (hfu : 200 < fu) : Al_dusk Rel fu := by
  rintro SX SM ⟨q, I, J, v, rfl, rfl, h⟩ a1 a2
  have hX := Rv_X h
  have hM := Rv_M h
  have hE := h.1
  have hP := hM.1
  have hok := h.2.2.1
  unfold F_X7_dusk F_X8_dusk
  rw [X_r0, bind_some', E_ob eE1, bind_some', x_hasPerson eE1 hE, b2_some, M_ob, bind_some', m_isOne hP.1 hP.2, b2_some]
  cases hb : inb a1 (vP v) with
  | false => exact ⟨-5, _, _, by rw [if_pos bIf], by rw [if_pos bIf], q, I, J, v, rfl, rfl, h⟩
  | true =>
    obtain ⟨p, hp, rfl⟩ := inb_of hb (by omega)
    obtain ⟨I1, s1, x1⟩ := x_beats (fu := fu) eE1 hX hok hp hfu
    have hX1 := RX_8 hX s1 eE1
    obtain ⟨I2, ⟨s2, l2⟩, x2⟩ := x_look (fu := fu) eE1 hX1 hok hp hfu
    have hX2 := RX_L hX1 s2 eE1
    obtain ⟨J1, t1, m1⟩ := m_beatsOf (fu := fu) hM hp hfu
    have hM1 := RM_sme hM t1 (by decide)
    obtain ⟨b, hb, eb⟩ := sBeats_n hok hp hM.2.1.2
    have hR : Rv q I2 J1 v := Rv_mono h (smx_tr (EC_8 (Or.inl rfl) s1) (EC_L (Or.inl rfl) s2)) (sm0_of t1 (by decide))
    rw [if_neg bIt, if_neg bIt, X_r0, bind_some', E_ob eE1, bind_some', x1, b2_some, X_r0, bind_some', E_ob eE1, bind_some', x2, bind_some', M_ob, bind_some', m1, b2_some, eb]
    by_cases h0 : a2 = 0
    · exact ⟨nI b, _, _, by rw [if_pos h0], by rw [if_pos h0], q, I2, J1, v, rfl, rfl, hR⟩
    by_cases h1 : a2 = 1
    · exact ⟨sCaught v p (nI b), _, _, by rw [if_neg h0, if_pos h1, X_r0, bind_some', E_ob eE1, bind_some', x_catchersAt eE1 hX2 l2 (by omega) hfu, b2_some], by rw [if_neg h0, if_pos h1, M_ob, bind_some', m_caughtBy hM1 hp hfu, b2_some], q, I2, J1, v, rfl, rfl, hR⟩
    have n0 : (0 : Int32) ≤ nI b := by rw [lit 0]; exact nI_le (by omega) (by omega)
    by_cases h2 : a2 = 2
    · obtain ⟨J2, t2, m2⟩ := m_lossOf (fu := fu) (beats := nI b) hM1 hp (Or.inr n0) hfu
      exact ⟨sLoss v p (nI b), _, _, by rw [if_neg h0, if_neg h1, if_pos h2, X_r0, bind_some', E_ob eE1, bind_some', x_lossAt eE1 hX2 l2 (by omega) hfu, b2_some], by rw [if_neg h0, if_neg h1, if_pos h2, M_ob, bind_some', m2, b2_some], q, I2, J2, v, rfl, rfl, Rv_mono hR smx_rf (sm0_of t2 (by decide))⟩
    by_cases h3 : a2 = 3
    · obtain ⟨J2, t2, m2⟩ := m_thoughtOf (fu := fu) (beats := nI b) hM1 hp (Or.inr n0) hfu
      exact ⟨sThought v p (nI b), _, _, by rw [if_neg h0, if_neg h1, if_neg h2, if_pos h3, X_r0, bind_some', E_ob eE1, bind_some', x_thoughtAt eE1 hX2 l2 hp (by omega) hfu, b2_some], by rw [if_neg h0, if_neg h1, if_neg h2, if_pos h3, M_ob, bind_some', m2, b2_some], q, I2, J2, v, rfl, rfl, Rv_mono hR smx_rf (sm0_of t2 (by decide))⟩
    exact ⟨-7, _, _, by rw [if_neg h0, if_neg h1, if_neg h2, if_neg h3], by rw [if_neg h0, if_neg h1, if_neg h2, if_neg h3], q, I2, J1, v, rfl, rfl, hR⟩
