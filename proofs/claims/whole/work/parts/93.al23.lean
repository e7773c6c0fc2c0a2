/-! likely, best -/
def lkf2 (c d : Nat → Bool) (k : Nat) (ab : Int64 × Int64) : Int64 × Int64 := (ab.1 + (if c k then (1 : Int64) else 0), ab.2 + (if d k then (1 : Int64) else 0))
theorem lkf2_eq {c d : Nat → Bool} : ∀ n, fold (lkf2 c d) n (0, 0) = (lN (cN c n), lN (cN d n))
  | 0 => rfl
  | n + 1 => by
    show lkf2 c d n (fold (lkf2 c d) n (0, 0)) = _
    rw [lkf2_eq n]
    show (lN (cN c n) + (if c n then (1 : Int64) else 0), lN (cN d n) + (if d n then (1 : Int64) else 0)) = (lN (cN c n + (if c n then 1 else 0)), lN (cN d n + (if d n then 1 else 0)))
    rw [← lN_add, ← lN_add]
    congr 1
    · split <;> rfl
    · split <;> rfl
def lc (v : Ev) (p : Nat) (b : Int32) (k : Nat) : Bool := decide (sBy v p (nI k) = b)
def ld (v : Ev) (p : Nat) (b : Int32) (k0 k : Nat) : Bool := bt (nI k) (nI k0) && lc v p b k
theorem al_likely {fu : Nat} (hfu : 2000 < fu) : Al_likely Rel fu := by
  rintro SX SM ⟨q, I, J, v, rfl, rfl, h⟩ a1 a2 a3 a4
  have hX := Rv_X h
  have hM := Rv_M h
  have hok := h.2.2.1
  obtain ⟨hP, hP6⟩ := hM.1
  obtain ⟨hW, hW10⟩ := hM.2.1
  obtain ⟨n1, n2⟩ := pow10 hW10
  have no : ∃ (r : Int64) (SX1 SM1 : Hp), (some (-4611686018427387904, mkX q I) : Option (Int64 × Hp)) = some (r, SX1) ∧ (some (-4611686018427387904, mkM J) : Option (Int64 × Hp)) = some (r, SM1) ∧ Rel SX1 SM1 := ⟨_, _, _, rfl, rfl, q, I, J, v, rfl, rfl, h⟩
  have e2 : F_X8_in (mkM J) a2 0 999 = some (bI (inb a2 1000), mkM J) := m_in0 (by decide)
  have e4 : F_X8_in (mkM J) a4 0 1 = some (bI (inb a4 2), mkM J) := m_in0 (by decide)
  unfold F_X7_likely F_X8_likely B_X7_likely_30 B_X8_likely_37
  rw [X_r0, bind_some', E_ob eE1, bind_some', x_hasPerson eE1 h.1, b2_some, M_ob, bind_some', m_isOne hP hP6, b2_some]
  cases hb : inb a1 (vP v) with
  | false => rw [if_pos bIf, if_pos bIf]; exact no
  | true =>
    obtain ⟨p, hp, rfl⟩ := inb_of hb (by omega)
    rw [if_neg bIt, if_neg bIt, e2, b2_some, X_r0, bind_some', E_ob eE1, bind_some', x_hasWrong eE1 h.1, b2_some]
    have m3 : ∀ X : Option (Int64 × Hp), (inb a3 (vW v) = false ∨ inb a4 2 = false) → (if bI (inb a2 1000) = 0 then (some (-4611686018427387904, mkM J) : Option (Int64 × Hp)) else (ob (mkM J) 6 (some 0)).bind fun _ => b2 (F_X8_isWrong (mkM J) 0 a3) fun v21 S21 => if v21 = 0 then some (-4611686018427387904, S21) else b2 (F_X8_in S21 a4 0 1) fun v31 S31 => if v31 = 0 then some (-4611686018427387904, S31) else (ob S31 6 (some 0)).bind fun _ => (F_X8_tellsStrokes fu S31 0 (nI p)).bind fun S43 => B_X8_likely_55 fu 0 a2 a3 a4 fu S43 0 0 0) = some (-4611686018427387904, mkM J) := by
      intro _ hor
      cases hb2 : inb a2 1000 with
      | false => rw [if_pos bIf]
      | true =>
        rw [if_neg bIt, M_ob, bind_some', m_isWrong hW hW10, b2_some]
        cases hb3 : inb a3 (vW v) with
        | false => rw [if_pos bIf]
        | true =>
          rw [if_neg bIt, e4, b2_some, hor.resolve_left (fun q => by rw [q] at hb3; cases hb3), if_pos bIf]
    cases hb3 : inb a3 (vW v) with
    | false => rw [if_pos bIf, m3 none (Or.inl hb3)]; exact no
    | true =>
      rw [if_neg bIt, x_zo, b2_some]
      cases hb4 : inb a4 2 with
      | false => rw [if_pos bIf, m3 none (Or.inr hb4)]; exact no
      | true =>
        clear m3
        obtain ⟨k0, hk0, rfl⟩ := inb_of hb3 (by omega)
        obtain ⟨part, hpart, rfl⟩ := inb_of hb4 (by decide)
        obtain ⟨I1, ⟨s1, i44⟩, x1⟩ := x_fill (fu := fu) hX hok hp (by omega)
        have hX1 := RX_44 hX s1
        have hE1 : EX I1 1 v := ⟨hX1.1, hX1.2.1, hX1.2.2.1, hX1.2.2.2.1, hX1.2.2.2.2.1⟩
        have xs1 := x_sets (q := q) (p := p) (b := a2) (w := nI (2 ^ k0)) (c := ld v p a2 k0) (fu := fu) hE1 i44 (fun k hk => by rw [and_bit k (by omega) k0 (by omega)]; rfl) hfu
        have xs2 := x_sets (q := q) (p := p) (b := a2) (w := 0) (c := lc v p a2) (fu := fu) hE1 i44 (fun k hk => by rw [and_z, decide_eq_true rfl, Bool.true_and]; rfl) hfu
        have l1 := cN_le (c := ld v p a2 k0) (2 ^ vW v)
        have l2 := cN_le (c := lc v p a2) (2 ^ vW v)
        rw [if_neg bIt, X_r0, bind_some', X_r9, bind_some', E_ob eE1, bind_some', x1, bind_some', X_o0, bind_some', sh_n _ (by omega), xs1, b2_some, X_o0, bind_some', xs2, b2_some, x_low (by omega) (by omega) hpart (by omega), b2_some]
        cases hb2 : inb a2 1000 with
        | false =>
          have hz : cN (lc v p a2) (2 ^ vW v) = 0 := cN_0 _ (fun k hk => decide_eq_false (fun hq => by
            obtain ⟨n, hn, en⟩ := sBy_n (set := nI k) hok hp hW10
            rw [← hq, en, inb_nI (by omega) (by decide)] at hb2
            cases hb2))
          rw [hz, if_pos rfl, if_pos bIf]
          exact ⟨_, _, _, rfl, rfl, q, I1, J, v, rfl, rfl, Rv_mono h (EC_44 s1) sm0_rf⟩
        | true =>
          obtain ⟨J1, ⟨t1, j21⟩, m1⟩ := m_tells (fu := fu) hM hp (by omega)
          have hW1 : J1 0 7 = nI (vW v) := by rw [t1 0 (by decide)]; exact hW
          have hR : Rv q I1 J1 v := Rv_mono h (EC_44 s1) (sm0_of t1 (by decide))
          rw [if_neg bIt, M_ob, bind_some', m_isWrong hW hW10, b2_some, hb3, if_neg bIt, e4, b2_some, hb4, if_neg bIt, M_ob, bind_some', m1, bind_some']
          obtain ⟨J2, hJ, m2⟩ := loop2z mkM (B_X8_likely_55 fu 0 a2 (nI k0) (nI part)) (fun k => L_X8_likely_55 k fu 0 a2 (nI k0) (nI part)) (fun n => rfl) (2 ^ vW v) (lkf2 (lc v p a2) (ld v p a2 k0)) 0 0 (fun _ J' => J' = J1) (fun ab J' => some (if cN (lc v p a2) (2 ^ vW v) = 0 then (-4611686018427387904 : Int64) else lN ((if part = 0 then cN (ld v p a2 k0) (2 ^ vW v) else cN (lc v p a2) (2 ^ vW v)) / Nat.gcd (cN (ld v p a2 k0) (2 ^ vW v)) (cN (lc v p a2) (2 ^ vW v))), mkM J')) (by
            intro k J' hi
            subst hi
            rw [lkf2_eq]
            unfold L_X8_likely_55 B_X8_likely_151
            rw [M_gI, bind_some', hW1, sh_n _ (by omega), if_pos (nI_le (Nat.le_refl _) (by omega)), cmp0 (by omega)]
            by_cases hz : cN (lc v p a2) (2 ^ vW v) = 0
            · rw [if_pos hz, if_pos hz]
            · rw [if_neg hz, if_neg hz, m_low (by omega) (by omega) (by omega) hpart (by omega), b2_some]) (by
            intro k J' j hj hi
            subst hi
            refine ⟨J', rfl, ?_⟩
            generalize fold (lkf2 (lc v p a2) (ld v p a2 k0)) j (0, 0) = ab
            unfold L_X8_likely_55 B_X8_likely_81 B_X8_likely_95 B_X8_likely_119 B_X8_likely_120 lkf2
            rw [M_gI, bind_some', hW1, sh_n _ (by omega), if_neg (nI_ge hj (by omega)), M_ob, bind_some', m_bySet hW1 hW10 j21 (by omega), b2_some, nI_1]
            by_cases hc : sBy v p (nI j) = a2
            · have c1 : lc v p a2 j = true := decide_eq_true hc
              rw [if_pos hc, if_neg (show ¬ (1 : Int32) = 0 by decide), if_neg (show ¬ (1 : Int32) = 0 by decide), if_pos c1]
              by_cases hb : ((nI j >>> (nI k0 &&& 31)) &&& (1 : Int32)) = 1
              · have d1 : ld v p a2 k0 j = true := by
                  unfold ld
                  rw [c1, show bt (nI j) (nI k0) = true from decide_eq_true hb]
                  rfl
                rw [if_pos hb, if_pos d1]
              · have d1 : ¬ ld v p a2 k0 j = true := by
                  unfold ld
                  rw [show bt (nI j) (nI k0) = false from decide_eq_false hb, Bool.false_and]
                  decide
                rw [if_neg hb, if_neg d1]
            · have c1 : lc v p a2 j = false := decide_eq_false hc
              have c2 : ¬ lc v p a2 j = true := by rw [c1]; decide
              have d1 : ¬ ld v p a2 k0 j = true := by
                unfold ld
                rw [c1, Bool.and_false]
                decide
              rw [if_neg hc, if_pos rfl, if_pos rfl, if_neg c2, if_neg d1]) J1 rfl fu (by omega)
          subst hJ
          exact ⟨_, _, _, rfl, m2, q, I1, J2, v, rfl, rfl, hR⟩
/-! best -/
def bxf (ok : Nat → Bool) (T : Nat → Int32) (k : Nat) (ab : Int32 × Int32) : Int32 × Int32 := if ok k then (if T k ≤ ab.2 then ab else (nI k, T k)) else ab
def bmf (ok : Nat → Bool) (T : Nat → Int32) (k : Nat) (ab : Int32 × Int32) : Int32 × Int32 := if ok k then (if ab.1 = -1 ∨ ab.2 < T k then (nI k, T k) else ab) else ab
theorem best_eq {ok : Nat → Bool} {T : Nat → Int32} (h0 : ok 0 = true) (hT : ∀ k, ∃ n, n < 1000 ∧ T k = nI n) : ∀ n, n < 2 ^ 20 → fold (bxf ok T) (n + 1) (0, -1) = fold (bmf ok T) (n + 1) (-1, 0) ∧ ¬ (fold (bmf ok T) (n + 1) (-1, 0)).1 = -1
  | 0, _ => by
    show bxf ok T 0 (0, -1) = bmf ok T 0 (-1, 0) ∧ ¬ (bmf ok T 0 (-1, 0)).1 = -1
    obtain ⟨n, hn, en⟩ := hT 0
    unfold bxf bmf
    rw [if_pos h0, if_pos h0, if_pos (Or.inl rfl), if_neg (by
      rw [en, le_I, nI_toInt (by omega)]
      have e1 : (-1 : Int32).toInt = -1 := rfl
      show ¬ (n : Int) ≤ (-1 : Int32).toInt
      omega)]
    exact ⟨rfl, nI_m1 (by decide)⟩
  | n + 1, hn => by
    obtain ⟨h1, h2⟩ := best_eq h0 hT n (by omega)
    show bxf ok T (n + 1) (fold (bxf ok T) (n + 1) (0, -1)) = bmf ok T (n + 1) (fold (bmf ok T) (n + 1) (-1, 0)) ∧ ¬ (bmf ok T (n + 1) (fold (bmf ok T) (n + 1) (-1, 0))).1 = -1
    rw [h1]
    generalize fold (bmf ok T) (n + 1) (-1, 0) = ab at h2 ⊢
    unfold bxf bmf
    by_cases hk : ok (n + 1) = true
    · rw [if_pos hk, if_pos hk, nle_I]
      by_cases hc : ab.2 < T (n + 1)
      · rw [if_pos hc, if_pos (Or.inr hc)]
        exact ⟨rfl, nI_m1 (by omega)⟩
      · rw [if_neg hc, if_neg (fun q => q.elim h2 hc)]
        exact ⟨rfl, h2⟩
    · rw [if_neg hk, if_neg hk]
      exact ⟨rfl, h2⟩
def bOk (O : Int32) (k : Nat) : Bool := decide ((nI k &&& (O ^^^ (-1 : Int32))) = 0)
def bT (v : Ev) (p k : Nat) : Int32 := sThought v p (sBy v p (nI k))
theorem al_best {fu : Nat} (hfu : 2000 < fu) : Al_best Rel fu := by
  rintro SX SM ⟨q, I, J, v, rfl, rfl, h⟩ a1 a2
  have hX := Rv_X h
  have hM := Rv_M h
  have hok := h.2.2.1
  obtain ⟨hP, hP6⟩ := hM.1
  obtain ⟨hW, hW10⟩ := hM.2.1
  obtain ⟨n1, n2⟩ := pow10 hW10
  have no : ∀ x : Int32, ∃ (r : Int32) (SX1 SM1 : Hp), (some (x, mkX q I) : Option (Int32 × Hp)) = some (r, SX1) ∧ (some (x, mkM J) : Option (Int32 × Hp)) = some (r, SM1) ∧ Rel SX1 SM1 := fun x => ⟨x, _, _, rfl, rfl, q, I, J, v, rfl, rfl, h⟩
  have e2 : F_X8_in (mkM J) a2 0 1 = some (bI (inb a2 2), mkM J) := m_in0 (by decide)
  unfold F_X7_best F_X8_best
  rw [X_r0, bind_some', E_ob eE1, bind_some', x_hasPerson eE1 h.1, b2_some, M_ob, bind_some', m_isOne hP hP6, b2_some]
  cases hb : inb a1 (vP v) with
  | false => rw [if_pos bIf, if_pos bIf]; exact no _
  | true =>
    obtain ⟨p, hp, rfl⟩ := inb_of hb (by omega)
    rw [if_neg bIt, if_neg bIt, x_zo, b2_some, e2, b2_some]
    cases hb2 : inb a2 2 with
    | false => rw [if_pos bIf, if_pos bIf]; exact no _
    | true =>
      obtain ⟨I1, ⟨s1, i44⟩, x1⟩ := x_fill (fu := fu) hX hok hp (by omega)
      have hX1 := RX_44 hX s1
      obtain ⟨I2, ⟨s2, l2⟩, x2⟩ := x_look (fu := fu) eE1 hX1 hok hp (by omega)
      have hX2 := RX_L hX1 s2 eE1
      have hE2 : EX I2 1 v := ⟨hX2.1, hX2.2.1, hX2.2.2.1, hX2.2.2.2.1, hX2.2.2.2.2.1⟩
      have i44' : ∀ k, k < vW v → I2 44 k = sStrokes v p k := fun k hk => by
        rw [s2 44 (fun q => by rcases q with ⟨q1, q2⟩ | q | q | q <;> omega)]
        exact i44 k hk
      obtain ⟨J1, ⟨t1, j21⟩, m1⟩ := m_tells (fu := fu) hM hp (by omega)
      have hM1 := RM_sme hM t1 (by decide)
      have hown := x_own (q := q) (p := p) (fu := fu) h.1 (by omega)
      have sI2 : smx EC I I2 := smx_tr (EC_44 s1) (EC_L (Or.inl rfl) s2)
      rw [if_neg bIt, if_neg bIt, X_r0, bind_some', bind_some', E_r6 eE1, bind_some', E_ob eE1, bind_some', hown, b2_some, X_r0, bind_some', X_r9, bind_some', E_ob eE1, bind_some', x1, bind_some', X_r0, bind_some', E_ob eE1, bind_some', x2, bind_some', M_ob, bind_some', m1, bind_some', M_ob, bind_some', m_own hM1 (by omega), b2_some]
      generalize hO : nI (setN' (fun k => dd v p k) (vW v)) = O
      obtain ⟨I3, hI, x3⟩ := loop2z (mkX q) (B_X7_best_69 fu 0 (nI p) a2 O) (fun k => L_X7_best_69 k fu 0 (nI p) a2 O) (fun n => rfl) (2 ^ vW v) (bxf (bOk O) (bT v p)) 0 (-1) (fun _ I' => I' = I2) (fun ab I' => some (if a2 = 0 then ab.1 else ab.2, mkX q I')) (by
        intro k I' hi
        subst hi
        unfold L_X7_best_69 B_X7_best_140
        rw [X_r0, bind_some', E_gI eE1, bind_some', hE2.2.1.1, sh_n _ (by omega), if_pos (nI_le (Nat.le_refl _) (by omega))]
        split <;> rfl) (by
        intro k I' j hj hi
        subst hi
        refine ⟨I', rfl, ?_⟩
        generalize fold (bxf (bOk O) (bT v p)) j (0, -1) = ab
        obtain ⟨n, hn, en⟩ := sBy_n (set := nI j) hok hp hW10
        unfold L_X7_best_69 B_X7_best_123 bxf
        rw [X_r0, bind_some', E_gI eE1, bind_some', hE2.2.1.1, sh_n _ (by omega), if_neg (nI_ge hj (by omega)), nI_1]
        by_cases hc : (nI j &&& (O ^^^ (-1 : Int32))) = 0
        · have xt : F_X0_thoughtAt fu (mkX q I') 1 (nI p) (sBy v p (nI j)) = some (bT v p j, mkX q I') := by
            unfold bT
            rw [en]
            exact x_thoughtAt eE1 hX2 l2 hp (by omega) (by omega)
          have k1 : bOk O j = true := decide_eq_true hc
          rw [if_pos hc, if_pos k1, bind_some', X_o0, bind_some', x_bySet hE2 i44' (by omega), b2_some, E_ob eE1, bind_some', xt, b2_some]
          by_cases hl : bT v p j ≤ ab.2
          · rw [if_pos hl, if_pos hl]
          · rw [if_neg hl, if_neg hl]
        · have k1 : ¬ bOk O j = true := fun q => hc (of_decide_eq_true q)
          rw [if_neg hc, if_neg k1]) I2 rfl fu (by omega)
      subst hI
      obtain ⟨J3, t3, m3⟩ := loop2z mkM (B_X8_best_43 fu 0 (nI p) a2 O) (fun k => L_X8_best_43 k fu 0 (nI p) a2 O) (fun n => rfl) (2 ^ vW v) (bmf (bOk O) (bT v p)) (-1) 0 (fun _ J' => sme [18, 19] J1 J') (fun ab J' => some (if a2 = 0 then ab.1 else ab.2, mkM J')) (by
        intro k J' hi
        unfold L_X8_best_43 B_X8_best_141
        rw [M_gI, bind_some', hi 0 (by decide), hM1.2.1.1, sh_n _ (by omega), if_pos (nI_le (Nat.le_refl _) (by omega))]
        split <;> rfl) (by
        intro k J' j hj hi
        generalize fold (bmf (bOk O) (bT v p)) j (-1, 0) = ab
        obtain ⟨n, hn, en⟩ := sBy_n (set := nI j) hok hp hW10
        have hM' := RM_sme hM1 hi (by decide)
        unfold L_X8_best_43 B_X8_best_89 B_X8_best_94 B_X8_best_108 B_X8_best_122 B_X8_best_124 bmf
        rw [M_gI, bind_some', hM'.2.1.1, sh_n _ (by omega), if_neg (nI_ge hj (by omega)), nI_1]
        by_cases hc : (nI j &&& (O ^^^ (-1 : Int32))) = 0
        · obtain ⟨J2, t2, m2⟩ := m_thoughtOf (fu := fu) (beats := sBy v p (nI j)) hM' hp (Or.inr (by rw [en, lit 0]; exact nI_le (by omega) (by omega))) (by omega)
          have k1 : bOk O j = true := decide_eq_true hc
          have m2 : F_X8_thoughtOf fu (mkM J') 0 (nI p) (sBy v p (nI j)) = some (bT v p j, mkM J2) := m2
          refine ⟨J2, sme_tr hi t2, ?_⟩
          rw [if_pos hc, if_pos k1, M_ob, bind_some', m_bySet hM'.2.1.1 hW10 (fun k hk => by rw [hi 21 (by decide)]; exact j21 k hk) (by omega), b2_some, M_ob, bind_some', m2, b2_some, nle_I]
          have e1 : ¬ (1 : Int32) = 0 := by decide
          by_cases h1 : ab.1 = -1
          · rw [if_pos h1, if_neg e1, if_neg e1, if_pos (Or.inl h1)]
          · rw [if_neg h1]
            by_cases hl : ab.2 < bT v p j
            · rw [if_pos hl, if_neg e1, if_neg e1, if_pos (Or.inr hl)]
            · rw [if_neg hl, if_pos rfl, if_pos rfl, if_neg (fun q => q.elim h1 hl)]
        · have k1 : ¬ bOk O j = true := fun q => hc (of_decide_eq_true q)
          exact ⟨J', hi, by rw [if_neg hc, if_neg k1]⟩) J1 sme_rf fu (by omega)
      obtain ⟨N, hN⟩ : ∃ N, 2 ^ vW v = N + 1 := ⟨2 ^ vW v - 1, by omega⟩
      have hz : bOk O 0 = true := by
        show decide ((nI 0 &&& (O ^^^ (-1 : Int32))) = 0) = true
        rw [show (nI 0 &&& (O ^^^ (-1 : Int32))) = 0 from Int32.zero_and]
        rfl
      have be := (best_eq (ok := bOk O) (T := bT v p) hz (fun k => by
        obtain ⟨n, h1, h2⟩ := sThought_n (v := v) (p := p) (b := sBy v p (nI k))
        exact ⟨n, by omega, h2⟩) N (by omega)).1
      rw [hN, be] at x3
      rw [hN] at m3
      exact ⟨_, _, _, x3, m3, q, I3, J3, v, rfl, rfl, Rv_mono h sI2 (sm0_tr (sm0_of t1 (by decide)) (sm0_of t3 (by decide)))⟩
