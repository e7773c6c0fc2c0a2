/-! drawn, odds -/
theorem ED2_C {I I' : Nat → Nat → Int32} (h : smx ED2 I I') : smx EC I I' := smx_wk h (fun a ha => by
  unfold ED2 at ha
  exact Or.inl (by omega))
theorem al_drawn {fu : Nat} (hfu : 200 < fu) : Al_drawn Rel fu := by
  rintro SX SM ⟨q, I, J, v, rfl, rfl, h⟩ a1 a2
  have hX := Rv_X h
  have hM := Rv_M h
  have hok := h.2.2.1
  have hP6 := hM.1.2
  have no : ∃ (r : Int32) (SX1 SM1 : Hp), (some (-2, mkX q I) : Option (Int32 × Hp)) = some (r, SX1) ∧ (some (-2, mkM J) : Option (Int32 × Hp)) = some (r, SM1) ∧ Rel SX1 SM1 := ⟨_, _, _, rfl, rfl, q, I, J, v, rfl, rfl, h⟩
  have e1 : F_X8_in (mkM J) a1 0 99999 = some (bI (inb a1 100000), mkM J) := m_in0 (by decide)
  have f1 : F_X7_fits (mkX q I) a1 100000 = some (bI (inb a1 100000), mkX q I) := x_fits (by decide)
  have e2 : F_X8_in (mkM J) a2 0 1 = some (bI (inb a2 2), mkM J) := m_in0 (by decide)
  unfold F_X7_drawn F_X8_drawn B_X7_drawn_17 B_X8_drawn_20
  rw [f1, b2_some, e1, b2_some]
  cases hb1 : inb a1 100000 with
  | false => rw [if_pos bIf, if_pos bIf]; exact no
  | true =>
    obtain ⟨seed, hs, rfl⟩ := inb_of hb1 (by decide)
    rw [if_neg bIt, if_neg bIt, x_zo, b2_some, e2, b2_some]
    cases hb2 : inb a2 2 with
    | false => rw [if_pos bIf, if_pos bIf]; exact no
    | true =>
      obtain ⟨I2, s2, -, x2, f2⟩ := x_think (fu := fu) h (Or.inl rfl) smx_rf hfu
      obtain ⟨I3, s3, e3, f3⟩ := x_draw (q := qT q) (seed := seed) (fu := fu) (RX_E x2) (by omega) hfu
      have s23 : smx EC I I3 := smx_tr s2 (ED2_C s3)
      have x3 : RX (qT q) I3 12 (drawOf v (seed + 1) (dN v)) := RX_of hX e3 ⟨rfl, rfl⟩ ⟨rfl, rfl, rfl⟩ (fun a h1 h2 => s23 a (EC_n (by omega)))
      have ok3 := okEv_draw (a := seed + 1) hok hP6
      obtain ⟨J2, w2, j2, m2⟩ := m_byLots (seed := seed) (fu := fu) hM hok (MW_0 h.2.1) (by omega) hfu
      rw [if_neg bIt, if_neg bIt, X_r1, bind_some', X_r0, bind_some', E_ob eE12, bind_some', f2, bind_some', X_r1, bind_some', E_ob eE12, bind_some', f3, bind_some', M_ob, bind_some', m2, b2_some]
      unfold B_X7_drawn_60 B_X8_drawn_41
      by_cases h0 : a2 = 0
      · obtain ⟨I4, s4, f4⟩ := x_caught (fu := fu) eE12 x3 ok3 hfu
        rw [if_pos h0, if_pos h0, X_r1, bind_some', E_ob eE12, bind_some', f4, b2_some]
        exact ⟨_, _, _, rfl, rfl, qT q, I4, J2, v, rfl, rfl, Rv_MW h (Or.inr rfl) (smx_tr s23 (EC_L (Or.inr rfl) s4)) w2⟩
      · obtain ⟨I4, s4, f4⟩ := x_beatsOfAll (fu := fu) eE12 x3 ok3 hfu
        rw [if_neg h0, if_neg h0, X_r1, bind_some', E_ob eE12, bind_some', f4, b2_some, M_gI, bind_some', j2]
        exact ⟨_, _, _, rfl, rfl, qT q, I4, J2, v, rfl, rfl, Rv_MW h (Or.inr rfl) (smx_tr s23 (EC_8 (Or.inr rfl) s4)) w2⟩
theorem bit01 : ∀ m, m < 64 → ∀ k, k < 6 → ((nI m >>> (nI k &&& 31)) &&& (1 : Int32)).toInt64 = (if m.testBit k then (1 : Int64) else 0) := by decide +kernel
def cO (v : Ev) (p seed i : Nat) : Bool := decide (sCaught (drawOf v (seed + i + 1) (dN v)) p (sBeats (drawOf v (seed + i + 1) (dN v)) p) ≠ 0)
theorem sCgt_bit {v : Ev} {p : Nat} (hp : p < vP v) (hP : vP v ≤ 6) : ((sCgt v >>> (nI p &&& 31)) &&& (1 : Int32)).toInt64 = if sCaught v p (sBeats v p) = 0 then (0 : Int64) else 1 := by
  have e : sCgt v = nI (setN' (fun k => decide (sCaught v k (sBeats v k) ≠ 0)) (vP v)) := by
    rw [← setI_n _ (by omega)]
    refine fold_congr _ _ (fun k _ s => ?_)
    by_cases hc : sCaught v k (sBeats v k) = 0
    · rw [if_pos hc, if_neg (fun q => (of_decide_eq_true q) hc)]
    · rw [if_neg hc, if_pos (decide_eq_true hc)]
  have hlt : setN' (fun k => decide (sCaught v k (sBeats v k) ≠ 0)) (vP v) < 64 := by
    have h1 := setN_lt (c := fun k => decide (sCaught v k (sBeats v k) ≠ 0)) (n := vP v)
    have h2 := (pow6 hP).2
    omega
  rw [e, bit01 _ hlt p (by omega), setN_bit]
  by_cases hc : sCaught v p (sBeats v p) = 0
  · rw [if_pos hc, if_neg (by
      rw [show decide (sCaught v p (sBeats v p) ≠ 0) = false from decide_eq_false (fun h => h hc), Bool.and_false]
      decide)]
  · rw [if_neg hc, if_pos (by
      rw [show decide (sCaught v p (sBeats v p) ≠ 0) = true from decide_eq_true hc, Bool.and_true]
      exact decide_eq_true hp)]
theorem al_odds {fu : Nat} (hfu : 200 < fu) : Al_odds Rel fu := by
  rintro SX SM ⟨q, I, J, v, rfl, rfl, h⟩ a1 a2 a3 a4
  have hX := Rv_X h
  have hM := Rv_M h
  have hok := h.2.2.1
  obtain ⟨hP, hP6⟩ := hM.1
  have no : ∃ (r : Int64) (SX1 SM1 : Hp), (some (-4611686018427387904, mkX q I) : Option (Int64 × Hp)) = some (r, SX1) ∧ (some (-4611686018427387904, mkM J) : Option (Int64 × Hp)) = some (r, SM1) ∧ Rel SX1 SM1 := ⟨_, _, _, rfl, rfl, q, I, J, v, rfl, rfl, h⟩
  have e1 : F_X8_in (mkM J) a1 0 99999 = some (bI (inb a1 100000), mkM J) := m_in0 (by decide)
  have f1 : F_X7_fits (mkX q I) a1 100000 = some (bI (inb a1 100000), mkX q I) := x_fits (by decide)
  have e2 : F_X8_in (mkM J) a2 1 40 = some (bI (decide (1 ≤ a2 ∧ a2 ≤ 40)), mkM J) := m_in
  have e4 : F_X8_in (mkM J) a4 0 1 = some (bI (inb a4 2), mkM J) := m_in0 (by decide)
  have c1 : (1 : Int32).toInt = 1 := rfl
  have c40 : (40 : Int32).toInt = 40 := rfl
  unfold F_X7_odds F_X8_odds B_X7_odds_25 B_X7_odds_26 B_X7_odds_52 B_X8_odds_39
  rw [f1, b2_some, e1, b2_some, if_pos rfl]
  cases hb1 : inb a1 100000 with
  | false => rw [if_pos bIf, if_pos bIf]; exact no
  | true =>
    obtain ⟨seed, hs, rfl⟩ := inb_of hb1 (by decide)
    rw [if_neg bIt, if_neg bIt, e2, b2_some, if_neg (show ¬ (1 : Int32) = 0 by decide)]
    by_cases hr : 1 ≤ a2 ∧ a2 ≤ 40
    · obtain ⟨g1, g2⟩ := id hr
      rw [le_I, c1] at g1
      rw [le_I, c40] at g2
      obtain ⟨n, hn, rfl⟩ : ∃ m : Nat, m ≤ 40 ∧ a2 = nI m := ⟨a2.toInt.toNat, by omega, by rw [eq_I, nI_toInt (by omega)]; omega⟩
      rw [nI_toInt (by omega)] at g1
      rw [decide_eq_true hr, if_neg bIt, if_neg (show ¬ nI n < 1 by rw [lit 1]; exact nI_nlt (by omega) (by omega)), if_neg (show ¬ (40 : Int32) < nI n by rw [lit 40]; exact nI_nlt (by omega) (by omega)), X_r0, bind_some', E_ob eE1, bind_some', x_hasPerson eE1 h.1, b2_some, M_ob, bind_some', m_isOne hP hP6, b2_some]
      cases hb3 : inb a3 (vP v) with
      | false => rw [if_pos bIf, if_pos bIf]; exact no
      | true =>
        obtain ⟨p, hp, rfl⟩ := inb_of hb3 (by omega)
        rw [if_neg bIt, if_neg bIt, x_zo, b2_some, e4, b2_some]
        cases hb4 : inb a4 2 with
        | false => rw [if_pos bIf, if_pos bIf]; exact no
        | true =>
          obtain ⟨part, hpart, rfl⟩ := inb_of hb4 (by decide)
          obtain ⟨I2, s2, -, x2, f2⟩ := x_think (fu := fu) h (Or.inl rfl) smx_rf hfu
          have cle := cN_le (c := cO v p seed) n
          rw [if_neg bIt, if_neg bIt, X_r1, bind_some', X_r0, bind_some', E_ob eE12, bind_some', f2, bind_some']
          obtain ⟨I3, ⟨s3, -⟩, x3⟩ := loop1z (mkX (qT q)) (B_X7_odds_73 fu 0 (nI seed) (nI n) (nI p) (nI part)) (fun k => L_X7_odds_73 k fu 0 (nI seed) (nI n) (nI p) (nI part)) (fun n => rfl) n (fun i a => a + (if cO v p seed i then (1 : Int32) else 0)) 0 (fun _ I' => smx EC I I' ∧ ∃ v0, EX I' 12 v0 ∧ vP v0 = vP v ∧ ∀ a, drawOf v0 a (dN v0) = drawOf v a (dN v)) (fun _ I' => some (lN ((if part = 0 then cN (cO v p seed) n else n) / Nat.gcd (cN (cO v p seed) n) n), mkX (qT q) I')) (by
            intro k I' hi
            rw [cN_I]
            unfold L_X7_odds_73
            rw [if_pos (nI_le (Nat.le_refl _) (by omega)), x_low (by omega) (by omega) hpart hfu, b2_some, if_neg (by omega)]) (by
            intro k I' i hi' hi
            obtain ⟨g1, v0, g2, g3, g4⟩ := hi
            generalize fold (fun i a => a + (if cO v p seed i then (1 : Int32) else 0)) i 0 = a
            obtain ⟨I3, s3, e3, f3⟩ := x_draw (q := qT q) (seed := seed + i) (fu := fu) g2 (by omega) hfu
            rw [g4] at e3
            have s23 : smx EC I I3 := smx_tr g1 (ED2_C s3)
            have x3 : RX (qT q) I3 12 (drawOf v (seed + i + 1) (dN v)) := RX_of hX e3 ⟨rfl, rfl⟩ ⟨rfl, rfl, rfl⟩ (fun a h1 h2 => s23 a (EC_n (by omega)))
            have ok3 := okEv_draw (a := seed + i + 1) hok hP6
            obtain ⟨I4, I5, b, hb, eb, f4, f5, s5, x5, l5⟩ := x_lb (fu := fu) (p := p) eE12 x3 ok3 hp hfu
            refine ⟨I5, ⟨smx_tr s23 (EC_L (Or.inr rfl) s5), drawOf v (seed + i + 1) (dN v), RX_E x5, rfl, fun a => rfl⟩, ?_⟩
            unfold L_X7_odds_73 B_X7_odds_119
            rw [if_neg (nI_ge hi' (by omega)), X_r1, bind_some', E_ob eE12, bind_some', nI_add, f3, bind_some', X_r1, bind_some', E_ob eE12, bind_some', f4, bind_some', X_r1, bind_some', bind_some', E_ob eE12, bind_some', f5, b2_some, E_ob eE12, bind_some', x_catchersAt eE12 x5 l5 (by omega) hfu, b2_some, nI_1, ← eb]
            by_cases hc : sCaught (drawOf v (seed + i + 1) (dN v)) p (sBeats (drawOf v (seed + i + 1) (dN v)) p) = 0
            · have hc' : ¬ cO v p seed i = true := fun q => (of_decide_eq_true q) hc
              rw [if_pos hc, if_neg hc', Int32.add_zero]
            · have hc' : cO v p seed i = true := decide_eq_true hc
              rw [if_neg hc, if_pos hc']) I2 ⟨s2, v, RX_E x2, rfl, fun a => rfl⟩ fu (by omega)
          obtain ⟨J3, w3, m3⟩ := loop1z mkM (B_X8_odds_49 fu 0 (nI seed) (nI n) (nI p) (nI part)) (fun k => L_X8_odds_49 k fu 0 (nI seed) (nI n) (nI p) (nI part)) (fun n => rfl) n (fun i a => a + (if cO v p seed i then (1 : Int64) else 0)) 0 (fun _ J' => MW J J' v) (fun _ J' => some (lN ((if part = 0 then cN (cO v p seed) n else n) / Nat.gcd (cN (cO v p seed) n) n), mkM J')) (by
            intro k J' hi
            rw [cN_L]
            unfold L_X8_odds_49
            rw [if_pos (nI_le (Nat.le_refl _) (by omega)), nI_l (by omega), m_low (by omega) (by omega) (by omega) hpart hfu, b2_some]) (by
            intro k J' i hi' hi
            generalize fold (fun i a => a + (if cO v p seed i then (1 : Int64) else 0)) i 0 = a
            obtain ⟨J4, w4, -, m4⟩ := m_byLots (seed := seed + i) (fu := fu) hM hok hi (by omega) hfu
            refine ⟨J4, w4, ?_⟩
            unfold L_X8_odds_49
            rw [if_neg (nI_ge hi' (by omega)), M_ob, bind_some', nI_add, m4, b2_some, nI_1, sCgt_bit (v := drawOf v (seed + i + 1) (dN v)) hp hP6]
            by_cases hc : sCaught (drawOf v (seed + i + 1) (dN v)) p (sBeats (drawOf v (seed + i + 1) (dN v)) p) = 0
            · have hc' : ¬ cO v p seed i = true := fun q => (of_decide_eq_true q) hc
              rw [if_pos hc, if_neg hc']
            · have hc' : cO v p seed i = true := decide_eq_true hc
              rw [if_neg hc, if_pos hc']) J (MW_0 h.2.1) fu (by omega)
          exact ⟨_, _, _, x3, m3, qT q, I3, J3, v, rfl, rfl, Rv_MW h (Or.inr rfl) s3 w3⟩
    · rw [decide_eq_false hr, if_pos bIf]
      by_cases h1 : a2 < 1
      · rw [if_pos h1]; exact no
      · rw [if_neg h1, if_pos (by
          rw [lt_I, c1] at h1
          rw [lt_I, c40]
          by_cases hx : a2.toInt ≤ 40
          · exact absurd ⟨by rw [le_I, c1]; omega, by rw [le_I, c40]; omega⟩ hr
          · omega)]
        exact no
