/-! sets of wrongs -/
def setN' (c : Nat → Bool) (n : Nat) : Nat := fold (fun k s => s ||| (if c k then 2 ^ k else 0)) n 0
theorem setN_bit {c : Nat → Bool} {i : Nat} : ∀ n, (setN' c n).testBit i = (decide (i < n) && c i)
  | 0 => by simp [setN', fold]
  | n + 1 => by
    show (setN' c n ||| (if c n then 2 ^ n else 0)).testBit i = _
    rw [Nat.testBit_or, setN_bit n]
    by_cases hin : i = n
    · subst hin
      by_cases hc : c i = true
      · simp [hc, Nat.testBit_two_pow_self]
      · simp [hc]
    · have : (if c n then 2 ^ n else 0).testBit i = false := by
        split
        · rw [Nat.testBit_two_pow]; simp; omega
        · simp
      rw [this, Bool.or_false]
      by_cases h : i < n
      · simp [h, show i < n + 1 by omega]
      · simp [h, show ¬ i < n + 1 by omega]
theorem setN_lt {c : Nat → Bool} {n : Nat} : setN' c n < 2 ^ n := by
  refine Nat.lt_pow_two_of_testBit _ (fun i hi => ?_)
  rw [setN_bit]
  simp
  omega
theorem setN_10 {c : Nat → Bool} {n : Nat} (hn : n ≤ 10) : setN' c n < 1024 := by
  have h := setN_lt (c := c) (n := n)
  have : 2 ^ n ≤ 2 ^ 10 := Nat.pow_le_pow_right (by omega) hn
  omega
theorem nI_or (a b : Nat) : nI a ||| nI b = nI (a ||| b) := by
  apply Int32.toBitVec_inj.mp
  show BitVec.ofNat 32 a ||| BitVec.ofNat 32 b = BitVec.ofNat 32 (a ||| b)
  apply BitVec.eq_of_toNat_eq
  simp [Nat.or_mod_two_pow]
theorem nI_and (a b : Nat) : nI a &&& nI b = nI (a &&& b) := by
  apply Int32.toBitVec_inj.mp
  show BitVec.ofNat 32 a &&& BitVec.ofNat 32 b = BitVec.ofNat 32 (a &&& b)
  apply BitVec.eq_of_toNat_eq
  simp [Nat.and_mod_two_pow]
theorem sh_n : ∀ k, k < 12 → (1 : Int32) <<< (nI k &&& 31) = nI (2 ^ k) := by decide +kernel
theorem setI_n {c : Nat → Bool} : ∀ n, n ≤ 10 → fold (fun k s => s ||| (if c k then (1 : Int32) <<< (nI k &&& 31) else 0)) n 0 = nI (setN' c n)
  | 0, _ => rfl
  | n + 1, hn => by
    show fold _ n (0 : Int32) ||| (if c n then (1 : Int32) <<< (nI n &&& 31) else 0) = nI (setN' c n ||| (if c n then 2 ^ n else 0))
    rw [setI_n n (by omega), ← nI_or, sh_n n (by omega)]
    split <;> rfl
theorem popc_bits : ∀ m, m < 1024 → popc (nI m) = fold (fun k s => s + (if m.testBit k then 1 else 0)) 10 (0 : Int32) := by decide +kernel
theorem bt_bits : ∀ m, m < 1024 → ∀ k, k < 10 → bt (nI m) (nI k) = m.testBit k := by decide +kernel
theorem cnt_ext {c : Nat → Bool} {n : Nat} : ∀ d, fold (fun k s => s + (if (decide (k < n) && c k) then 1 else 0)) (n + d) (0 : Int32) = fold (fun k s => s + (if c k then 1 else 0)) n (0 : Int32)
  | 0 => fold_congr n 0 (fun k hk s => by simp [hk])
  | d + 1 => by
    show fold _ (n + d) (0 : Int32) + (if (decide (n + d < n) && c (n + d)) then 1 else 0) = _
    rw [cnt_ext d, decide_eq_false (by omega), Bool.false_and, if_neg (by decide), Int32.add_zero]
theorem popc_set {c : Nat → Bool} {n : Nat} (hn : n ≤ 10) : popc (nI (setN' c n)) = fold (fun k s => s + (if c k then 1 else 0)) n (0 : Int32) := by
  rw [popc_bits _ (setN_10 hn)]
  have : (fun (k : Nat) (s : Int32) => s + (if (setN' c n).testBit k then 1 else 0)) = fun k s => s + (if (decide (k < n) && c k) then 1 else 0) := by
    funext k s
    rw [setN_bit]
  rw [this]
  have h := cnt_ext (c := c) (n := n) (10 - n)
  rw [show n + (10 - n) = 10 by omega] at h
  exact h
theorem bt_set {c : Nat → Bool} {n k : Nat} (hn : n ≤ 10) (hk : k < n) : bt (nI (setN' c n)) (nI k) = c k := by
  rw [bt_bits _ (setN_10 hn) k (by omega), setN_bit, decide_eq_true hk, Bool.true_and]
theorem and_set {c d : Nat → Bool} {n : Nat} : nI (setN' c n) &&& nI (setN' d n) = nI (setN' (fun k => c k && d k) n) := by
  rw [nI_and]
  congr 1
  refine Nat.eq_of_testBit_eq (fun i => ?_)
  rw [Nat.testBit_and, setN_bit, setN_bit, setN_bit]
  cases decide (i < n) <;> simp
theorem x_wrongsWith {q : Xp} {I : Nat → Nat → Int32} {v : Ev} {e fu : Nat} {c : Nat → Bool} {x : Int32} (o : Nat) (he : isE e) (hR : EX I e v) (ho : o = 5 ∨ o = 7) (hc : ∀ k, k < vW v → bt (I (e + o) k) x = c k) (hfu : 200 < fu) :
    F_X0_wrongsWith fu (mkX q I) e (some (e + o)) x = some (nI (setN' c (vW v)), mkX q I) := by
  obtain ⟨hW, hW10⟩ := hR.2.1
  obtain ⟨I', hI, h⟩ := loop1z (mkX q) (B_X0_wrongsWith_5 fu e (some (e + o)) x) (fun k => L_X0_wrongsWith_5 k fu e (some (e + o)) x) (fun n => rfl) (vW v) (fun k s => s ||| (if c k then (1 : Int32) <<< (nI k &&& 31) else 0)) 0 (fun _ I' => I' = I) (fun a I' => some (a, mkX q I')) (by
    intro k I' hi
    subst hi
    unfold L_X0_wrongsWith_5
    rw [E_gI he, bind_some', hW, if_pos (nI_le (Nat.le_refl _) (by omega))]) (by
    intro k I' j hj hi
    subst hi
    refine ⟨I', rfl, ?_⟩
    have hat : F_X7_at (mkX q I') (some (e + o)) (nI j) = some (I' (e + o) j, mkX q I') := by
      rcases ho with rfl | rfl
      · exact E_a5 he (by omega)
      · exact E_a7 he (by omega)
    unfold L_X0_wrongsWith_5 B_X0_wrongsWith_36
    rw [E_gI he, bind_some', hW, if_neg (nI_ge hj (by omega)), hat, b2_some, x_hasBit, b2_some, bI_ne, hc j hj, nI_1]
    split <;> rfl) I rfl fu (by omega)
  rw [hI, setI_n _ hW10] at h
  exact h
theorem x_sightings {q : Xp} {I : Nat → Nat → Int32} {v : Ev} {e fu p o : Nat} (he : isE e) (hR : EX I e v) (hfu : 200 < fu) :
    F_X0_sightingsOf fu (mkX q I) e (nI p) (nI o) = some (sSaw v o p, mkX q I) := by
  have hW10 := hR.2.1.2
  have h1 : F_X0_wrongsWith fu (mkX q I) e (some (e + 5)) (nI p) = some (nI (setN' (fun k => dd v p k) (vW v)), mkX q I) := x_wrongsWith 5 he hR (Or.inl rfl) (fun k hk => by rw [(hR.2.2.2.2 k hk).1]; rfl) hfu
  have h2 : F_X0_wrongsWith fu (mkX q I) e (some (e + 7)) (nI o) = some (nI (setN' (fun k => ss v o k) (vW v)), mkX q I) := x_wrongsWith 7 he hR (Or.inr rfl) (fun k hk => by rw [(hR.2.2.2.2 k hk).2.2]; rfl) hfu
  unfold F_X0_sightingsOf
  rw [E_r6 he, bind_some', E_ob he, bind_some', h1, b2_some, E_r8 he, bind_some', E_ob he, bind_some', h2, b2_some, and_set, x_bitCount (setN_10 hW10), b2_some, popc_set hW10]
  rfl
theorem m_manyOf {J : Nat → Nat → Int32} {v : Ev} {fu b : Nat} {x : Int32} {c : Nat → Bool} (hM : RM J v) (hb : b < 2) (hc : ∀ k, k < vW v → (if b = 0 then bt (J 6 k) x else bt (J 4 k) x) = c k) (hfu : 200 < fu) :
    F_X8_manyOf fu (mkM J) 0 x (nI b) = some (fold (fun k s => s + (if c k then 1 else 0)) (vW v) 0, mkM J) := by
  obtain ⟨hW, hW10⟩ := RM_W hM
  obtain ⟨J', hJ, h⟩ := loop1z mkM (B_X8_manyOf_5 fu 0 x (nI b)) (fun k => L_X8_manyOf_5 k fu 0 x (nI b)) (fun n => rfl) (vW v) (fun k s => s + (if c k then 1 else 0)) 0 (fun _ J' => J' = J) (fun a J' => some (a, mkM J')) (by
    intro k J' hi
    subst hi
    unfold L_X8_manyOf_5
    rw [M_gI, bind_some', hW, if_pos (nI_le (Nat.le_refl _) (by omega))]) (by
    intro k J' j hj hi
    subst hi
    refine ⟨J', rfl, ?_⟩
    have hcj := hc j hj
    unfold L_X8_manyOf_5 B_X8_manyOf_35 B_X8_manyOf_48
    rw [M_gI, bind_some', hW, if_neg (nI_ge hj (by omega)), nI_1]
    rcases (show b = 0 ∨ b = 1 by omega) with rfl | rfl
    · rw [if_pos rfl] at hcj
      rw [if_pos (show nI 0 = 0 from rfl), M_ob, bind_some', m_saw0 (by omega), b2_some, hcj, bI_ne]
      split <;> rfl
    · rw [if_neg (by decide)] at hcj
      rw [if_neg (show ¬ nI 1 = 0 by decide), M_ob, bind_some', m_did (by omega), b2_some, hcj, bI_ne]
      split <;> rfl) J rfl fu (by omega)
  rw [hJ] at h
  exact h
theorem al_told {fu : Nat} (hfu : 200 < fu) : Al_told Rel fu := by
  rintro SX SM ⟨q, I, J, v, rfl, rfl, h⟩ a1 a2
  have hM := Rv_M h
  have hP := hM.1
  have hW10 := h.1.2.1.2
  unfold F_X7_told F_X8_told
  rw [X_r0, bind_some', E_ob eE1, bind_some', x_hasPerson eE1 h.1, b2_some, M_ob, bind_some', m_isOne hP.1 hP.2, b2_some]
  cases hb : inb a1 (vP v) with
  | false => exact ⟨-5, _, _, by rw [if_pos bIf], by rw [if_pos bIf], q, I, J, v, rfl, rfl, h⟩
  | true =>
    obtain ⟨p, hp, rfl⟩ := inb_of hb (by omega)
    obtain ⟨x1, x2, x3, x4⟩ := h.1.2.2.2.1 p hp
    obtain ⟨m1, m2, m3, m4⟩ := RM_p hM hp
    rw [if_neg bIt, if_neg bIt]
    by_cases h0 : a2 = 0
    · exact ⟨vPride v p, _, _, by rw [if_pos h0, X_r0, bind_some', E_r3 eE1, bind_some', E_a3 eE1 (by omega), b2_some, x3], by rw [if_pos h0, M_r3, bind_some', h0, lit 2, lit 0, nI_mul, nI_add, M_g3 (by omega), bind_some', Nat.add_zero, m3], q, I, J, v, rfl, rfl, h⟩
    by_cases h1 : a2 = 1
    · exact ⟨vName v p, _, _, by rw [if_neg h0, if_pos h1, X_r0, bind_some', E_r4 eE1, bind_some', E_a4 eE1 (by omega), b2_some, x4], by rw [if_neg h0, if_pos h1, M_r3, bind_some', h1, lit 2, lit 1, nI_mul, nI_add, M_g3 (by omega), bind_some', m4], q, I, J, v, rfl, rfl, h⟩
    by_cases h2 : a2 = 2
    · exact ⟨vKind v p, _, _, by rw [if_neg h0, if_neg h1, if_pos h2, X_r0, bind_some', E_r1 eE1, bind_some', E_a1 eE1 (by omega), b2_some, x1], by rw [if_neg h0, if_neg h1, if_pos h2, M_r1, bind_some', M_g1 (by omega), bind_some', m1], q, I, J, v, rfl, rfl, h⟩
    by_cases h3 : a2 = 3
    · exact ⟨vMore v p, _, _, by rw [if_neg h0, if_neg h1, if_neg h2, if_pos h3, X_r0, bind_some', E_r2 eE1, bind_some', E_a2 eE1 (by omega), b2_some, x2], by rw [if_neg h0, if_neg h1, if_neg h2, if_pos h3, M_r2, bind_some', M_g2 (by omega), bind_some', m2], q, I, J, v, rfl, rfl, h⟩
    by_cases h4 : a2 = 4
    · have e1 : F_X0_wrongsWith fu (mkX q I) 1 (some (1 + 5)) (nI p) = some (nI (setN' (fun k => dd v p k) (vW v)), mkX q I) := x_wrongsWith 5 eE1 h.1 (Or.inl rfl) (fun k hk => by rw [(h.1.2.2.2.2 k hk).1]; rfl) hfu
      have e2 : F_X8_manyOf fu (mkM J) 0 (nI p) 1 = some (fold (fun k s => s + (if dd v p k then 1 else 0)) (vW v) 0, mkM J) := m_manyOf (b := 1) hM (by decide) (fun k hk => by rw [if_neg (by decide), (RM_k hM hk).1]; rfl) hfu
      exact ⟨_, _, _, by rw [if_neg h0, if_neg h1, if_neg h2, if_neg h3, if_pos h4, X_r0, bind_some', bind_some', E_r6 eE1, bind_some', E_ob eE1, bind_some', e1, b2_some, x_bitCount (setN_10 hW10), b2_some, popc_set hW10], by rw [if_neg h0, if_neg h1, if_neg h2, if_neg h3, if_pos h4, M_ob, bind_some', e2, b2_some], q, I, J, v, rfl, rfl, h⟩
    by_cases h5 : a2 = 5
    · have e1 : F_X0_wrongsWith fu (mkX q I) 1 (some (1 + 7)) (nI p) = some (nI (setN' (fun k => ss v p k) (vW v)), mkX q I) := x_wrongsWith 7 eE1 h.1 (Or.inr rfl) (fun k hk => by rw [(h.1.2.2.2.2 k hk).2.2]; rfl) hfu
      have e2 : F_X8_manyOf fu (mkM J) 0 (nI p) 0 = some (fold (fun k s => s + (if ss v p k then 1 else 0)) (vW v) 0, mkM J) := m_manyOf (b := 0) hM (by decide) (fun k hk => by rw [if_pos rfl, (RM_k hM hk).2.2]; rfl) hfu
      exact ⟨_, _, _, by rw [if_neg h0, if_neg h1, if_neg h2, if_neg h3, if_neg h4, if_pos h5, X_r0, bind_some', bind_some', E_r8 eE1, bind_some', E_ob eE1, bind_some', e1, b2_some, x_bitCount (setN_10 hW10), b2_some, popc_set hW10], by rw [if_neg h0, if_neg h1, if_neg h2, if_neg h3, if_neg h4, if_pos h5, M_ob, bind_some', e2, b2_some], q, I, J, v, rfl, rfl, h⟩
    exact ⟨-7, _, _, by rw [if_neg h0, if_neg h1, if_neg h2, if_neg h3, if_neg h4, if_neg h5], by rw [if_neg h0, if_neg h1, if_neg h2, if_neg h3, if_neg h4, if_neg h5], q, I, J, v, rfl, rfl, h⟩
