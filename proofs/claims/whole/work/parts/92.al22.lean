/-! counting, the least -/
theorem nI_m1 {i : Nat} (h : i < 2 ^ 31) : ¬ nI i = -1 := fun q => by
  rw [eq_I, nI_toInt h] at q
  have e1 : (-1 : Int32).toInt = -1 := rfl
  omega
theorem fou_snoc {c : Nat → Bool} : ∀ d i, i + d < 2 ^ 30 → fou c (d + 1) i = if fou c d i = -1 then (if c (i + d) then nI (i + d) else -1) else fou c d i
  | 0, i, _ => by
    show (if c i then nI i else -1) = if (-1 : Int32) = -1 then (if c (i + 0) then nI (i + 0) else -1) else -1
    rw [if_pos rfl, Nat.add_zero]
  | d + 1, i, h => by
    show (if c i then nI i else fou c (d + 1) (i + 1)) = if (if c i then nI i else fou c d (i + 1)) = -1 then _ else (if c i then nI i else fou c d (i + 1))
    by_cases hc : c i = true
    · rw [if_pos hc, if_pos hc, if_neg (nI_m1 (by omega))]
    · rw [if_neg hc, if_neg hc, fou_snoc d (i + 1) (by omega), show i + 1 + d = i + (d + 1) by omega]
def cN (c : Nat → Bool) (n : Nat) : Nat := fold (fun k a => a + (if c k then 1 else 0)) n 0
theorem cN_le {c : Nat → Bool} : ∀ n, cN c n ≤ n
  | 0 => Nat.le_refl _
  | n + 1 => by
    show cN c n + (if c n then 1 else 0) ≤ n + 1
    have := cN_le (c := c) n
    split <;> omega
theorem cN_I {c : Nat → Bool} : ∀ n, fold (fun k a => a + (if c k then (1 : Int32) else 0)) n 0 = nI (cN c n)
  | 0 => rfl
  | n + 1 => by
    show fold _ n (0 : Int32) + (if c n then (1 : Int32) else 0) = nI (cN c n + (if c n then 1 else 0))
    rw [cN_I n, ← nI_add]
    split <;> rfl
theorem cN_L {c : Nat → Bool} : ∀ n, fold (fun k a => a + (if c k then (1 : Int64) else 0)) n 0 = lN (cN c n)
  | 0 => rfl
  | n + 1 => by
    show fold _ n (0 : Int64) + (if c n then (1 : Int64) else 0) = lN (cN c n + (if c n then 1 else 0))
    rw [cN_L n, ← lN_add]
    split <;> rfl
theorem cN_0 {c : Nat → Bool} : ∀ n, (∀ k, k < n → c k = false) → cN c n = 0
  | 0, _ => rfl
  | n + 1, h => by
    show cN c n + (if c n then 1 else 0) = 0
    rw [cN_0 n (fun k hk => h k (by omega)), h n (by omega), if_neg (by decide)]
def pst (c : Nat → Bool) (s k : Nat) (ab : Int32 × Int32) : Int32 × Int32 := if c (s + k) then (ab.1 + 1, if ab.2 = -1 then nI (s + k) else ab.2) else ab
theorem pst_1 {c : Nat → Bool} {s : Nat} : ∀ n, (fold (pst c s) n (0, -1)).1 = nI (cN (fun k => c (s + k)) n)
  | 0 => rfl
  | n + 1 => by
    show (pst c s n (fold (pst c s) n (0, -1))).1 = nI (cN (fun k => c (s + k)) n + (if c (s + n) then 1 else 0))
    unfold pst
    by_cases h : c (s + n) = true
    · rw [if_pos h, if_pos h]
      show (fold (pst c s) n (0, -1)).1 + 1 = _
      rw [pst_1 n, nI_1]
    · rw [if_neg h, if_neg h]
      exact pst_1 n
theorem pst_2 {c : Nat → Bool} {s : Nat} : ∀ n, s + n < 2 ^ 30 → (fold (pst c s) n (0, -1)).2 = fou c n s
  | 0, _ => rfl
  | n + 1, hn => by
    show (pst c s n (fold (pst c s) n (0, -1))).2 = _
    rw [fou_snoc n s (by omega), ← pst_2 n (by omega)]
    generalize fold (pst c s) n (0, -1) = ab
    unfold pst
    by_cases h : c (s + n) = true
    · rw [if_pos h, if_pos h]
    · rw [if_neg h, if_neg h]
      show ab.2 = _
      split
      · assumption
      · rfl
theorem pst_inv {c : Nat → Bool} {s : Nat} : ∀ n, s + n < 2 ^ 30 → ((fold (pst c s) n (0, -1)).1 = 0 ↔ (fold (pst c s) n (0, -1)).2 = -1)
  | 0, _ => ⟨fun _ => rfl, fun _ => rfl⟩
  | n + 1, hn => by
    show (pst c s n (fold (pst c s) n (0, -1))).1 = 0 ↔ (pst c s n (fold (pst c s) n (0, -1))).2 = -1
    have h0 := pst_1 (c := c) (s := s) n
    have hle := cN_le (c := fun k => c (s + k)) n
    have ih := pst_inv (c := c) (s := s) n (by omega)
    generalize fold (pst c s) n (0, -1) = ab at h0 ih ⊢
    unfold pst
    by_cases h : c (s + n) = true
    · rw [if_pos h]
      show ab.1 + 1 = 0 ↔ (if ab.2 = -1 then nI (s + n) else ab.2) = -1
      rw [h0, nI_1]
      constructor
      · intro q
        exact absurd q (nI_ne0 (by omega) (by omega))
      · intro q
        split at q
        · exact absurd q (nI_m1 (by omega))
        · contradiction
    · rw [if_neg h]
      exact ih
theorem pow10 {W : Nat} (h : W ≤ 10) : 1 ≤ 2 ^ W ∧ 2 ^ W ≤ 1024 := by
  have h1 : 2 ^ W ≤ 2 ^ 10 := Nat.pow_le_pow_right (by omega) h
  have h2 : 0 < 2 ^ W := Nat.two_pow_pos W
  omega
theorem x_sets {q : Xp} {I : Nat → Nat → Int32} {v : Ev} {p fu : Nat} {b w : Int32} {c : Nat → Bool} (hE : EX I 1 v) (h44 : ∀ k, k < vW v → I 44 k = sStrokes v p k) (hc : ∀ k, k < 2 ^ vW v → c k = (decide (nI k &&& w = w) && decide (sBy v p (nI k) = b))) (hfu : 2000 < fu) : F_X7_setsByBeats fu (mkX q I) 0 b w = some (nI (cN c (2 ^ vW v)), mkX q I) := by
  obtain ⟨hW, hW10⟩ := hE.2.1
  obtain ⟨n1, n2⟩ := pow10 hW10
  obtain ⟨I', hI, h⟩ := loop1z (mkX q) (B_X7_setsByBeats_5 fu 0 b w) (fun k => L_X7_setsByBeats_5 k fu 0 b w) (fun n => rfl) (2 ^ vW v) (fun k a => a + (if c k then (1 : Int32) else 0)) 0 (fun _ I' => I' = I) (fun a I' => some (a, mkX q I')) (by
    intro k I' hi
    subst hi
    unfold L_X7_setsByBeats_5
    rw [X_r0, bind_some', E_gI eE1, bind_some', hW, sh_n _ (by omega), if_pos (nI_le (Nat.le_refl _) (by omega))]) (by
    intro k I' j hj hi
    subst hi
    refine ⟨I', rfl, ?_⟩
    unfold L_X7_setsByBeats_5 B_X7_setsByBeats_40
    rw [X_r0, bind_some', E_gI eE1, bind_some', hW, sh_n _ (by omega), if_neg (nI_ge hj (by omega)), X_o0, bind_some', x_bySet hE h44 (by omega), b2_some, hc j hj, nI_1]
    by_cases h1 : nI j &&& w = w
    · rw [if_pos h1, decide_eq_true h1, Bool.true_and]
      by_cases h2 : sBy v p (nI j) = b
      · rw [if_pos h2, decide_eq_true h2, if_pos rfl]
      · rw [if_neg h2, decide_eq_false h2, if_neg (by decide), Int32.add_zero]
    · rw [if_neg h1, decide_eq_false h1, Bool.false_and, if_neg (by decide), Int32.add_zero]) I rfl fu (by omega)
  rw [hI, cN_I] at h
  exact h
theorem x_least {q : Xp} {I : Nat → Nat → Int32} {v : Ev} {p fu : Nat} {b : Int32} (hE : EX I 1 v) (h44 : ∀ k, k < vW v → I 44 k = sStrokes v p k) (hfu : 2000 < fu) : F_X7_leastSetByBeats fu (mkX q I) 0 b = some (fou (fun k => decide (sBy v p (nI k) = b)) (2 ^ vW v) 0, mkX q I) := by
  obtain ⟨hW, hW10⟩ := hE.2.1
  obtain ⟨n1, n2⟩ := pow10 hW10
  have key : ∀ (d i m : Nat), i + d = 2 ^ vW v → d < m → B_X7_leastSetByBeats_2 fu 0 b m (mkX q I) (nI i) = some (fou (fun k => decide (sBy v p (nI k) = b)) d i, mkX q I) := by
    intro d
    induction d with
    | zero =>
      intro i m hi hm
      obtain ⟨m, rfl⟩ : ∃ q, m = q + 1 := ⟨m - 1, by omega⟩
      show L_X7_leastSetByBeats_2 _ _ _ _ _ _ = _
      unfold L_X7_leastSetByBeats_2
      rw [X_r0, bind_some', E_gI eE1, bind_some', hW, sh_n _ (by omega), if_pos (nI_le (by omega) (by omega))]
      rfl
    | succ d ih =>
      intro i m hi hm
      obtain ⟨m, rfl⟩ : ∃ q, m = q + 1 := ⟨m - 1, by omega⟩
      show L_X7_leastSetByBeats_2 _ _ _ _ _ _ = some ((if decide (sBy v p (nI i) = b) then nI i else fou (fun k => decide (sBy v p (nI k) = b)) d (i + 1)), mkX q I)
      unfold L_X7_leastSetByBeats_2
      rw [X_r0, bind_some', E_gI eE1, bind_some', hW, sh_n _ (by omega), if_neg (nI_ge (by omega) (by omega)), X_o0, bind_some', x_bySet hE h44 (by omega), b2_some, nI_1]
      by_cases h2 : sBy v p (nI i) = b
      · rw [if_pos h2, if_pos (decide_eq_true h2)]
      · rw [if_neg h2, if_neg (fun q => h2 (of_decide_eq_true q))]
        exact ih (i + 1) m (by omega) (by omega)
  exact key (2 ^ vW v) 0 fu (by omega) (by omega)
theorem and_z (x : Nat) : nI x &&& (0 : Int32) = 0 := by
  rw [lit 0, nI_and, Nat.and_zero]
theorem al_guess {fu : Nat} (hfu : 2000 < fu) : Al_guess Rel fu := by
  rintro SX SM ⟨q, I, J, v, rfl, rfl, h⟩ a1 a2 a3
  have hX := Rv_X h
  have hM := Rv_M h
  have hok := h.2.2.1
  obtain ⟨hP, hP6⟩ := hM.1
  have hW10 := hM.2.1.2
  obtain ⟨n1, n2⟩ := pow10 hW10
  have no : ∀ x : Int32, ∃ (r : Int32) (SX1 SM1 : Hp), (some (x, mkX q I) : Option (Int32 × Hp)) = some (r, SX1) ∧ (some (x, mkM J) : Option (Int32 × Hp)) = some (r, SM1) ∧ Rel SX1 SM1 := fun x => ⟨x, _, _, rfl, rfl, q, I, J, v, rfl, rfl, h⟩
  have e2 : F_X8_in (mkM J) a2 0 999 = some (bI (inb a2 1000), mkM J) := m_in0 (by decide)
  have e3 : F_X8_in (mkM J) a3 0 1 = some (bI (inb a3 2), mkM J) := m_in0 (by decide)
  unfold F_X7_guess F_X8_guess B_X7_guess_32 B_X8_guess_31
  rw [X_r0, bind_some', E_ob eE1, bind_some', x_hasPerson eE1 h.1, b2_some, M_ob, bind_some', m_isOne hP hP6, b2_some]
  cases hb : inb a1 (vP v) with
  | false => rw [if_pos bIf, if_pos bIf]; exact no _
  | true =>
    obtain ⟨p, hp, rfl⟩ := inb_of hb (by omega)
    rw [if_neg bIt, if_neg bIt, e2, b2_some]
    have c0 : (0 : Int32).toInt = 0 := rfl
    have c9 : (999 : Int32).toInt = 999 := rfl
    cases hb2 : inb a2 1000 with
    | false =>
      rw [if_pos bIf]
      by_cases h0 : a2 < 0
      · rw [if_pos h0]; exact no _
      · rw [if_neg h0, if_pos (by
          rw [lt_I, c0] at h0
          rw [lt_I, c9]
          by_cases hx : a2.toInt < 1000
          · exact absurd (show inb a2 1000 = true from inb_iff.mpr ⟨by omega, by omega⟩) (by rw [hb2]; decide)
          · omega)]
        exact no _
    | true =>
      obtain ⟨b, hb', rfl⟩ := inb_of hb2 (by decide)
      rw [if_neg bIt, if_neg (nI_pos (by omega)), if_neg (by rw [lit 999]; exact nI_nlt (by omega) (by omega)), x_zo, b2_some, e3, b2_some]
      cases hb3 : inb a3 2 with
      | false => rw [if_pos bIf, if_pos bIf]; exact no _
      | true =>
        obtain ⟨w, hw, rfl⟩ := inb_of hb3 (by decide)
        obtain ⟨I1, ⟨s1, i44⟩, x1⟩ := x_fill (fu := fu) hX hok hp (by omega)
        obtain ⟨J1, ⟨t1, j21⟩, m1⟩ := m_tells (fu := fu) hM hp (by omega)
        have hX1 := RX_44 hX s1
        have hE1 : EX I1 1 v := ⟨hX1.1, hX1.2.1, hX1.2.2.1, hX1.2.2.2.1, hX1.2.2.2.2.1⟩
        have hW1 : J1 0 7 = nI (vW v) := by rw [t1 0 (by decide)]; exact hM.2.1.1
        have hR : Rv q I1 J1 v := Rv_mono h (EC_44 s1) (sm0_of t1 (by decide))
        rw [if_neg bIt, if_neg bIt, X_r0, bind_some', X_r9, bind_some', E_ob eE1, bind_some', x1, bind_some', M_ob, bind_some', m1, bind_some']
        obtain ⟨J2, hJ, m2⟩ := loop2z mkM (B_X8_guess_48 fu 0 (nI b) (nI w)) (fun k => L_X8_guess_48 k fu 0 (nI b) (nI w)) (fun n => rfl) (2 ^ vW v) (pst (fun k => decide (sBy v p (nI k) = nI b)) 0) 0 (-1) (fun _ J' => J' = J1) (fun ab J' => some (if w = 0 then ab.1 else ab.2, mkM J')) (by
          intro k J' hi
          subst hi
          unfold L_X8_guess_48 B_X8_guess_128
          rw [M_gI, bind_some', hW1, sh_n _ (by omega), if_pos (nI_le (Nat.le_refl _) (by omega))]
          rcases (show w = 0 ∨ w = 1 by omega) with rfl | rfl
          · rw [if_pos (show nI 0 = 0 from rfl), if_pos rfl]
          · rw [if_neg (show ¬ nI 1 = 0 by decide), if_neg (by decide)]) (by
          intro k J' j hj hi
          subst hi
          refine ⟨J', rfl, ?_⟩
          generalize fold (pst (fun k => decide (sBy v p (nI k) = nI b)) 0) j (0, -1) = ab
          unfold L_X8_guess_48 B_X8_guess_74 B_X8_guess_88 B_X8_guess_107 B_X8_guess_109 pst
          rw [M_gI, bind_some', hW1, sh_n _ (by omega), if_neg (nI_ge hj (by omega)), M_ob, bind_some', m_bySet hW1 hW10 j21 (by omega), b2_some, nI_1, Nat.zero_add]
          by_cases hc : sBy v p (nI j) = nI b
          · rw [if_pos hc, if_neg (show ¬ (1 : Int32) = 0 by decide), if_neg (show ¬ (1 : Int32) = 0 by decide), if_pos (decide_eq_true hc)]
            by_cases hl : ab.2 = -1
            · rw [if_pos hl]
              show _ = k (mkM J') (ab.1 + 1) (if ab.2 = -1 then nI j else ab.2) (nI (j + 1))
              rw [if_pos hl]
            · rw [if_neg hl]
              show _ = k (mkM J') (ab.1 + 1) (if ab.2 = -1 then nI j else ab.2) (nI (j + 1))
              rw [if_neg hl]
          · rw [if_neg hc, if_pos rfl, if_pos rfl, if_neg (fun q => hc (of_decide_eq_true q)), Int32.add_zero]) J1 rfl fu (by omega)
        subst hJ
        rw [pst_1, pst_2 _ (by omega)] at m2
        unfold B_X7_guess_65
        rcases (show w = 0 ∨ w = 1 by omega) with rfl | rfl
        · have xs := x_sets (q := q) (p := p) (b := nI b) (w := 0) (c := fun k => decide (sBy v p (nI k) = nI b)) (fu := fu) hE1 i44 (fun k hk => by rw [and_z, decide_eq_true rfl, Bool.true_and]) hfu
          rw [if_pos (show nI 0 = 0 from rfl), X_o0, bind_some', xs, b2_some]
          rw [if_pos rfl] at m2
          have e : (fun k => decide (sBy v p (nI (0 + k)) = nI b)) = fun k => decide (sBy v p (nI k) = nI b) := by
            funext k
            rw [Nat.zero_add]
          have m2' := m2
          rw [show (fun k => (fun k => decide (sBy v p (nI k) = nI b)) (0 + k)) = fun k => decide (sBy v p (nI k) = nI b) from e] at m2'
          exact ⟨_, _, _, rfl, m2', q, I1, J2, v, rfl, rfl, hR⟩
        · rw [if_neg (show ¬ nI 1 = 0 by decide), X_o0, bind_some', x_least hE1 i44 hfu, b2_some]
          rw [if_neg (by decide)] at m2
          exact ⟨_, _, _, rfl, m2, q, I1, J2, v, rfl, rfl, hR⟩
