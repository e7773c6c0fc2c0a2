/-! copying between sheets -/
theorem x_holds {q : Xp} {I : Nat → Nat → Int32} {s z : Nat} {x n : Int32} (hs : s < 4) (hz : z ≤ 40) (h1 : I (45 + 2 * s) 1 = nI z) : F_X4_holds (mkX q I) (45 + 2 * s) x n = some (bI (decide (0 ≤ x.toInt ∧ 0 ≤ n.toInt ∧ n.toInt ≤ (z : Int) - x.toInt)), mkX q I) := by
  unfold F_X4_holds B_X4_holds_22 B_X4_holds_23
  have e0 : (0 : Int32).toInt = 0 := rfl
  have ez : (nI z).toInt = (z : Int) := nI_toInt (by omega)
  have hb := toInt_bd x
  by_cases h0 : x < 0
  · rw [if_pos h0, decide_eq_false (by rw [lt_I, e0] at h0; omega)]
    rfl
  · rw [if_neg h0]
    rw [lt_I, e0] at h0
    by_cases hn : n < 0
    · rw [if_pos hn, decide_eq_false (by rw [lt_I, e0] at hn; omega)]
      rfl
    · rw [if_neg hn, S_gI hs, bind_some', h1]
      rw [lt_I, e0] at hn
      have hd : (nI z - x).toInt = (z : Int) - x.toInt := by rw [subI (by omega) (by omega), ez]
      by_cases hc : nI z - x < n
      · rw [if_pos hc, decide_eq_false (by rw [lt_I, hd] at hc; omega)]
        rfl
      · rw [if_neg hc, decide_eq_true (by rw [lt_I, hd] at hc; omega)]
        rfl
def cpI (I : Nat → Nat → Int32) (s t i j n : Nat) : Nat → Nat → Int32 := fun a b => if a = 46 + 2 * t then va_cpy (I (46 + 2 * s)) (I (46 + 2 * t)) i j n b else I a b
theorem cpI_o {I : Nat → Nat → Int32} {s t i j n a : Nat} (h : a ≠ 46 + 2 * t) : cpI I s t i j n a = I a := funext fun b => if_neg h
theorem cpI_s {I : Nat → Nat → Int32} {s t i j n b : Nat} : cpI I s t i j n (46 + 2 * t) b = va_cpy (I (46 + 2 * s)) (I (46 + 2 * t)) i j n b := if_pos rfl
theorem x_cpy {q : Xp} {I : Nat → Nat → Int32} {s t i j n : Nat} (hs : s < 4) (ht : t < 4) (h1 : i + n ≤ 40) (h2 : j + n ≤ 40) : cpyO (mkX q I) (some (46 + 2 * s)) (nI i) (some (46 + 2 * t)) (nI j) (nI n) = some (mkX q (cpI I s t i j n)) := by
  have e : ∀ u, u < 4 → ((mkX q I).2.1 (46 + 2 * u)).2 = 40 := fun u hu => by
    show (shX q (46 + 2 * u)).2 = 40
    unfold shX
    rw [if_pos (by omega), (S_sh hu).2]
  unfold cpyO
  rw [X_ob (t := 7) (a := 46 + 2 * s) (by omega) (by rw [(S_sh hs).2]), bind_some', X_ob (t := 7) (a := 46 + 2 * t) (by omega) (by rw [(S_sh ht).2]), bind_some', e s hs, e t ht, nI_clamp (by omega), nI_clamp (by omega), nI_clamp (by omega), if_neg (by
    intro q
    rcases q with q | q | q | q | q
    · exact nI_pos (by omega) q
    · exact nI_pos (by omega) q
    · exact nI_pos (by omega) q
    · omega
    · omega)]
  rfl
theorem m_copyL {J : Nat → Nat → Int32} {a b n fu : Nat} (ha : a + n ≤ 160) (hb : b + n ≤ 160) (hn : n ≤ 40) (hfu : 200 < fu) :
    ∃ J', (sme [14] J J' ∧ ∀ y, J' 14 y = if b ≤ y ∧ y < b + n then J 14 (a + (y - b)) else J 14 y) ∧ B_X8_copy_147 fu 0 (nI n) (nI a) (nI b) fu (mkM J) (nI 0) = some (nI n, mkM J') := by
  by_cases hab : b ≤ a
  · refine loop0z mkM (B_X8_copy_147 fu 0 (nI n) (nI a) (nI b)) (fun k => L_X8_copy_147 k fu 0 (nI n) (nI a) (nI b)) (fun n => rfl) n (fun j J' => sme [14] J J' ∧ ∀ y, J' 14 y = if b ≤ y ∧ y < b + j then J 14 (a + (y - b)) else J 14 y) (fun J' => some (nI n, mkM J')) (by
      intro k J' hi
      unfold L_X8_copy_147
      rw [if_pos (nI_le (Nat.le_refl _) (by omega))]) (by
      intro k J' j hj hi
      obtain ⟨h1, h2⟩ := hi
      have e : J' 14 (a + j) = J 14 (a + j) := by rw [h2, if_neg (by omega)]
      refine ⟨up2 J' 14 (b + j) (J' 14 (a + j)), ⟨sme_tr h1 (sme_up (by decide)), fun y => ?_⟩, ?_⟩
      · rw [up2_row, h2 y, e]
        by_cases hy : y = b + j
        · rw [if_pos hy, if_pos (show b ≤ y ∧ y < b + (j + 1) by omega), show y - b = j by omega]
        · rw [if_neg hy]
          by_cases hc : b ≤ y ∧ y < b + j
          · rw [if_pos hc, if_pos (show b ≤ y ∧ y < b + (j + 1) by omega)]
          · rw [if_neg hc, if_neg (show ¬ (b ≤ y ∧ y < b + (j + 1)) by omega)]
      · unfold L_X8_copy_147 B_X8_copy_173
        rw [if_neg (nI_ge hj (by omega)), if_pos (nI_le hab (by omega)), M_r20, bind_some', bind_some', nI_add, nI_add, M_g14 (by omega), bind_some', M_p14 (by omega), bind_some', nI_1]) J ⟨sme_rf, fun y => by rw [if_neg (by omega)]⟩ fu (by omega)
  · obtain ⟨J', ⟨h1, h2⟩, h3⟩ := loop0z mkM (B_X8_copy_147 fu 0 (nI n) (nI a) (nI b)) (fun k => L_X8_copy_147 k fu 0 (nI n) (nI a) (nI b)) (fun n => rfl) n (fun j J' => sme [14] J J' ∧ ∀ y, J' 14 y = if b + (n - j) ≤ y ∧ y < b + n then J 14 (a + (y - b)) else J 14 y) (fun J' => some (nI n, mkM J')) (by
      intro k J' hi
      unfold L_X8_copy_147
      rw [if_pos (nI_le (Nat.le_refl _) (by omega))]) (by
      intro k J' j hj hi
      obtain ⟨h1, h2⟩ := hi
      have e : J' 14 (a + (n - 1 - j)) = J 14 (a + (n - 1 - j)) := by rw [h2, if_neg (by omega)]
      refine ⟨up2 J' 14 (b + (n - 1 - j)) (J' 14 (a + (n - 1 - j))), ⟨sme_tr h1 (sme_up (by decide)), fun y => ?_⟩, ?_⟩
      · rw [up2_row, h2 y, e]
        by_cases hy : y = b + (n - 1 - j)
        · rw [if_pos hy, if_pos (show b + (n - (j + 1)) ≤ y ∧ y < b + n by omega), show y - b = n - 1 - j by omega]
        · rw [if_neg hy]
          by_cases hc : b + (n - j) ≤ y ∧ y < b + n
          · rw [if_pos hc, if_pos (show b + (n - (j + 1)) ≤ y ∧ y < b + n by omega)]
          · rw [if_neg hc, if_neg (show ¬ (b + (n - (j + 1)) ≤ y ∧ y < b + n) by omega)]
      · unfold L_X8_copy_147 B_X8_copy_173
        rw [if_neg (nI_ge hj (by omega)), if_neg (nI_ge (by omega) (by omega)), lit 1, pk_sub (by omega), pk_sub (by omega), M_r20, bind_some', bind_some', nI_add, nI_add, nI_add, M_g14 (by omega), bind_some', M_p14 (by omega), bind_some']) J ⟨sme_rf, fun y => by rw [if_neg (by omega)]⟩ fu (by omega)
    refine ⟨J', ⟨h1, fun y => ?_⟩, h3⟩
    rw [h2 y, Nat.sub_self, Nat.add_zero]
theorem SH_copy {I J J' : Nat → Nat → Int32} {s t i j n : Nat} (h : SH I J) (hs : s < 4) (ht : t < 4) (h1 : i + n ≤ 40) (h2 : j + n ≤ 40) (hJ : sme [14] J J') (h14 : ∀ y, J' 14 y = if 40 * t + j ≤ y ∧ y < 40 * t + j + n then J 14 (40 * s + i + (y - (40 * t + j))) else J 14 y) : SH (cpI I s t i j n) J' := by
  intro u hu
  obtain ⟨y1, y2, y3, y4, y5⟩ := h u hu
  obtain ⟨-, -, -, -, w5⟩ := h s hs
  rw [cpI_o (show 45 + 2 * u ≠ 46 + 2 * t by omega), hJ 12 (by decide), hJ 13 (by decide)]
  refine ⟨y1, y2, y3, y4, fun k hk => ?_⟩
  rw [h14]
  by_cases hut : u = t
  · subst hut
    rw [cpI_s]
    unfold va_cpy
    by_cases hc : j ≤ k ∧ k < j + n
    · rw [if_pos hc, if_pos (show 40 * u + j ≤ 40 * u + k ∧ 40 * u + k < 40 * u + j + n by omega), w5 _ (by omega)]
      congr 1
      omega
    · rw [if_neg hc, if_neg (by omega)]
      exact y5 k hk
  · rw [cpI_o (show 46 + 2 * u ≠ 46 + 2 * t by omega), if_neg (by omega)]
    exact y5 k hk
theorem cpyIf {α : Type} {a2 a4 a5 : Int32} {z w : Nat} {X N : α} (hz : z ≤ 40) (hw : w ≤ 40) : (if a5 < 0 then N else if a2 < 0 then N else if a4 < 0 then N else if nI z < a2 then N else if nI w < a4 then N else if nI z - a2 < a5 then N else if a5 ≤ nI w - a4 then X else N) = if (0 ≤ a2.toInt ∧ 0 ≤ a5.toInt ∧ a5.toInt ≤ (z : Int) - a2.toInt) ∧ (0 ≤ a4.toInt ∧ 0 ≤ a5.toInt ∧ a5.toInt ≤ (w : Int) - a4.toInt) then X else N := by
  have e0 : (0 : Int32).toInt = 0 := rfl
  have ez : (nI z).toInt = (z : Int) := nI_toInt (by omega)
  have ew : (nI w).toInt = (w : Int) := nI_toInt (by omega)
  have b2 := toInt_bd a2
  have b4 := toInt_bd a4
  by_cases c1 : a5 < 0
  · rw [if_pos c1, if_neg (by rw [lt_I, e0] at c1; omega)]
  rw [if_neg c1]
  by_cases c2 : a2 < 0
  · rw [if_pos c2, if_neg (by rw [lt_I, e0] at c2; omega)]
  rw [if_neg c2]
  by_cases c3 : a4 < 0
  · rw [if_pos c3, if_neg (by rw [lt_I, e0] at c3; omega)]
  rw [if_neg c3]
  rw [lt_I, e0] at c1 c2 c3
  by_cases c4 : nI z < a2
  · rw [if_pos c4, if_neg (by rw [lt_I, ez] at c4; omega)]
  rw [if_neg c4]
  by_cases c5 : nI w < a4
  · rw [if_pos c5, if_neg (by rw [lt_I, ew] at c5; omega)]
  rw [if_neg c5]
  have d2 : (nI z - a2).toInt = (z : Int) - a2.toInt := by rw [subI (by omega) (by omega), ez]
  have d4 : (nI w - a4).toInt = (w : Int) - a4.toInt := by rw [subI (by omega) (by omega), ew]
  by_cases c6 : nI z - a2 < a5
  · rw [if_pos c6, if_neg (by rw [lt_I, d2] at c6; omega)]
  rw [if_neg c6]
  rw [lt_I, d2] at c6
  by_cases c7 : a5 ≤ nI w - a4
  · rw [if_pos c7, if_pos (by rw [le_I, d4] at c7; omega)]
  · rw [if_neg c7, if_neg (by rw [le_I, d4] at c7; omega)]
theorem al_copy {fu : Nat} (hfu : 200 < fu) : Al_copy Rel fu := by
  rintro SX SM ⟨q, I, J, v, rfl, rfl, h⟩ a1 a2 a3 a4 a5
  have no : ∀ x : Int32, ∃ (r : Int32) (SX1 SM1 : Hp), (some (x, mkX q I) : Option (Int32 × Hp)) = some (r, SX1) ∧ (some (x, mkM J) : Option (Int32 × Hp)) = some (r, SM1) ∧ Rel SX1 SM1 := fun x => ⟨x, _, _, rfl, rfl, q, I, J, v, rfl, rfl, h⟩
  have e1 : F_X8_in (mkM J) a1 0 3 = some (bI (inb a1 4), mkM J) := m_in0 (by decide)
  have e3 : F_X8_in (mkM J) a3 0 3 = some (bI (inb a3 4), mkM J) := m_in0 (by decide)
  unfold F_X7_copy F_X8_copy B_X7_copy_24 B_X7_copy_43 B_X7_copy_85 B_X8_copy_18 B_X8_copy_41 B_X8_copy_124
  rw [X_o0, bind_some', e1, b2_some]
  cases hb1 : inb a1 4 with
  | false =>
    rw [x_sheetNo hb1, b2_some, X_o0, bind_some', if_pos bIf]
    cases hb3 : inb a3 4 with
    | false => rw [x_sheetNo hb3, b2_some, if_pos rfl]; exact no _
    | true =>
      obtain ⟨t, ht, rfl⟩ := inb_of hb3 (by decide)
      rw [x_sheetAt ht, b2_some, if_pos rfl]
      exact no _
  | true =>
    obtain ⟨s, hs, rfl⟩ := inb_of hb1 (by decide)
    rw [x_sheetAt hs, b2_some, X_o0, bind_some', if_neg bIt, e3, b2_some]
    cases hb3 : inb a3 4 with
    | false => rw [x_sheetNo hb3, b2_some, if_neg (by simp), if_pos rfl, if_pos bIf]; exact no _
    | true =>
      obtain ⟨t, ht, rfl⟩ := inb_of hb3 (by decide)
      obtain ⟨y1, y2, ⟨z, hz, ez⟩, y4, y5⟩ := h.2.2.2.2.2.2.2.1 s hs
      obtain ⟨w1, w2, ⟨w, hw, ew⟩, w4, w5⟩ := h.2.2.2.2.2.2.2.1 t ht
      rw [x_sheetAt ht, b2_some, if_neg (by simp), if_neg (by simp), if_neg bIt, S_ob hs, bind_some', x_isMissing hs, b2_some, y1, M_r18, bind_some', M_g12 hs, bind_some']
      by_cases hm : J 12 s = -1
      · rw [decide_eq_true hm, if_neg bIt, if_pos hm]
        exact no _
      · rw [decide_eq_false hm, if_pos bIf, S_ob ht, bind_some', x_isMissing ht, b2_some, w1, if_neg hm, bind_some', M_g12 ht, bind_some']
        by_cases hm2 : J 12 t = -1
        · rw [decide_eq_true hm2, if_neg bIt, if_pos hm2]
          exact no _
        · rw [decide_eq_false hm2, if_pos bIf, S_gI hs, bind_some', S_gI ht, bind_some', y1, w1, if_neg hm2, bind_some', M_g12 hs, bind_some', bind_some', M_g12 ht, bind_some']
          by_cases he : J 12 s = J 12 t
          · rw [if_pos he, if_pos he, S_ob hs, bind_some', x_holds hs hz (y2.trans ez), b2_some, M_r19, bind_some', M_g13 hs, bind_some', bind_some', M_g13 ht, bind_some', bind_some', bind_some', M_g13 hs, bind_some', M_g13 ht, bind_some', ez, ew, cpyIf hz hw]
            by_cases H1 : 0 ≤ a2.toInt ∧ 0 ≤ a5.toInt ∧ a5.toInt ≤ (z : Int) - a2.toInt
            · rw [decide_eq_true H1, if_neg bIt, S_ob ht, bind_some', x_holds ht hw (w2.trans ew), b2_some]
              by_cases H2 : 0 ≤ a4.toInt ∧ 0 ≤ a5.toInt ∧ a5.toInt ≤ (w : Int) - a4.toInt
              · rw [decide_eq_true H2, if_neg bIt, if_pos ⟨H1, H2⟩, S_r2 hs, bind_some', S_r2 ht, bind_some']
                obtain ⟨i, hi, rfl⟩ : ∃ i : Nat, i ≤ 40 ∧ a2 = nI i := ⟨a2.toInt.toNat, by omega, by rw [eq_I, nI_toInt (by omega)]; omega⟩
                obtain ⟨j, hj, rfl⟩ : ∃ i : Nat, i ≤ 40 ∧ a4 = nI i := ⟨a4.toInt.toNat, by omega, by rw [eq_I, nI_toInt (by omega)]; omega⟩
                obtain ⟨n, hn, rfl⟩ : ∃ i : Nat, i ≤ 40 ∧ a5 = nI i := ⟨a5.toInt.toNat, by omega, by rw [eq_I, nI_toInt (by omega)]; omega⟩
                rw [nI_toInt (by omega), nI_toInt (by omega)] at H1 H2
                obtain ⟨J1, ⟨t1, t2⟩, g1⟩ := m_copyL (J := J) (a := 40 * s + i) (b := 40 * t + j) (n := n) (fu := fu) (by omega) (by omega) hn hfu
                refine ⟨nI n, _, _, by rw [x_cpy hs ht (by omega) (by omega), bind_some'], by rw [lit 40, nI_mul, nI_mul, nI_add, nI_add]; exact g1, q, _, J1, v, rfl, rfl, ?_⟩
                exact Rv_sh h (SH_copy h.2.2.2.2.2.2.2.1 hs ht (by omega) (by omega) t1 t2) (fun a ha => cpI_o (by omega)) (fun a ha => t1 a (by simp; omega))
              · rw [decide_eq_false H2, if_pos bIf, if_neg (fun q => H2 q.2)]
                exact no _
            · rw [decide_eq_false H1, if_pos bIf, if_neg (fun q => H1 q.1)]
              exact no _
          · rw [if_neg he, if_neg he]
            exact no _
