/-! wrongs by lots -/
def nxN (a : Nat) : Nat := a * 48271 % 2147483647
def lotN (a : Nat) : Nat → Nat
  | 0 => a
  | k + 1 => nxN (nxN (nxN (lotN a k)))
theorem nxN_lt (a : Nat) : nxN a < 2 ^ 31 := by
  have : a * 48271 % 2147483647 < 2147483647 := Nat.mod_lt _ (by decide)
  unfold nxN
  omega
theorem lotN_lt {a : Nat} (ha : a < 2 ^ 31) : ∀ k, lotN a k < 2 ^ 31
  | 0 => ha
  | _ + 1 => nxN_lt _
theorem litL (n : Nat) : (OfNat.ofNat n : Int64) = lN n := rfl
theorem nx_N {a : Nat} (ha : a < 2 ^ 31) : (lN a * (48271 : Int64)) - (lN a * (48271 : Int64)) / (2147483647 : Int64) * (2147483647 : Int64) = lN (nxN a) := by
  rw [litL 48271, litL 2147483647, lN_mul, pk_lRem (by omega) (by decide) (by decide)]
  rfl
theorem dr_N {b P : Nat} (hb : b < 2 ^ 31) (h0 : 0 < P) (hP : P ≤ 6) : (lN b - lN b / (nI P).toInt64 * (nI P).toInt64).toInt32 = nI (b % P) := by
  rw [nI_l (by omega), pk_lRem (by omega) h0 (by omega), lN_i]
theorem w9_N {b : Nat} (hb : b < 2 ^ 31) : (1 : Int32) + (lN b - lN b / (9 : Int64) * (9 : Int64)).toInt32 = nI (1 + b % 9) := by
  rw [litL 9, pk_lRem (by omega) (by decide) (by decide), lN_i, lit 1, nI_add]
def drD (a P k : Nat) : Nat := nxN (lotN a k) % P
def drS (a P k : Nat) : Nat := nxN (nxN (lotN a k)) % P
def drW (a k : Nat) : Nat := 1 + nxN (nxN (nxN (lotN a k))) % 9
def drawOf (v : Ev) (a n : Nat) : Ev := (vP v, n, vDay v, vKind v, vMore v, vPride v, vName v, (fun k => nI (2 ^ drD a (vP v) k)), (fun k => nI (drW a k)), (fun k => if drS a (vP v) k = drD a (vP v) k then 0 else nI (2 ^ drS a (vP v) k)), vCode v, vBnd v)
def dN (v : Ev) : Nat := if vP v = 0 then 0 else 6
theorem pow_64 {d : Nat} (h : d < 6) : 2 ^ d < 64 := by
  have : 2 ^ d ≤ 2 ^ 5 := Nat.pow_le_pow_right (by omega) (by omega)
  omega
theorem okEv_draw {v : Ev} {a : Nat} (h : okEv v) (hP6 : vP v ≤ 6) : okEv (drawOf v a (dN v)) := by
  refine ⟨h.1, fun k hk => ?_⟩
  have h0 : 0 < vP v := by
    have hk : k < dN v := hk
    unfold dN at hk
    by_cases hz : vP v = 0
    · rw [if_pos hz] at hk
      omega
    · omega
  have m1 : drD a (vP v) k < vP v := Nat.mod_lt _ h0
  have m2 : drS a (vP v) k < vP v := Nat.mod_lt _ h0
  have m3 : nxN (nxN (nxN (lotN a k))) % 9 < 9 := Nat.mod_lt _ (by decide)
  refine ⟨⟨_, pow_64 (by omega), rfl⟩, ⟨drW a k, by unfold drW; omega, rfl⟩, ?_⟩
  show ∃ d, d < 64 ∧ (if drS a (vP v) k = drD a (vP v) k then 0 else nI (2 ^ drS a (vP v) k)) = nI d
  split
  · exact ⟨0, by omega, rfl⟩
  · exact ⟨_, pow_64 (by omega), rfl⟩
theorem x_add {q : Xp} {I : Nat → Nat → Int32} {j : Nat} {d w s : Int32} (h5 : I 12 5 = nI j) (hj : j < 10) : F_X0_add (mkX q I) 12 d w s = some (1, mkX q (up2 (up2 (up2 (up2 I 17 j d) 18 j w) 19 j s) 12 5 (nI (j + 1)))) := by
  have s5 : ∀ (K : Nat → Nat → Int32) x, F_X7_store (mkX q K) (some (12 + 5)) (nI j) x = some (mkX q (up2 K 17 j x)) := fun K x => E_s5 eE12 (by omega)
  have s6 : ∀ (K : Nat → Nat → Int32) x, F_X7_store (mkX q K) (some (12 + 6)) (nI j) x = some (mkX q (up2 K 18 j x)) := fun K x => E_s6 eE12 (by omega)
  have s7 : ∀ (K : Nat → Nat → Int32) x, F_X7_store (mkX q K) (some (12 + 7)) (nI j) x = some (mkX q (up2 K 19 j x)) := fun K x => E_s7 eE12 (by omega)
  unfold F_X0_add
  rw [E_gI eE12, bind_some', h5, if_pos (show nI j < 10 by rw [lit 10]; exact nI_lt hj (by decide)), E_r6 eE12, bind_some', bind_some', s5, bind_some', E_r7 eE12, bind_some', E_gI eE12, bind_some', up2_o (by decide), h5, s6, bind_some', E_r8 eE12, bind_some', E_gI eE12, bind_some', up2_o (by decide), up2_o (by decide), h5, s7, bind_some', E_gI eE12, bind_some', up2_o (by decide), up2_o (by decide), up2_o (by decide), h5, nI_1, E_pI eE12, bind_some']
  rfl
def ED2 (a : Nat) : Prop := a = 12 ∨ a = 17 ∨ a = 18 ∨ a = 19
theorem x_draw {q : Xp} {I : Nat → Nat → Int32} {v : Ev} {seed fu : Nat} (hE : EX I 12 v) (hs : seed < 2 ^ 30) (hfu : 200 < fu) :
    ∃ I', smx ED2 I I' ∧ EX I' 12 (drawOf v (seed + 1) (dN v)) ∧ F_X0_draw fu (mkX q I) 12 (nI seed) = some (mkX q I') := by
  obtain ⟨⟨hP, hP6⟩, -, hd, hp, -⟩ := hE
  unfold F_X0_draw
  rw [E_pI eE12, bind_some', E_gI eE12, bind_some', up2_j (by decide), hP, nI_l (by omega), lN_1]
  by_cases h0 : vP v = 0
  · rw [if_neg (by rw [h0]; decide)]
    refine ⟨_, smx_up (Or.inl rfl), ⟨⟨by rw [up2_j (by decide)]; exact hP, hP6⟩, ⟨by rw [up2_s]; show (0 : Int32) = nI (dN v); unfold dN; rw [if_pos h0]; rfl, by show dN v ≤ 10; unfold dN; rw [if_pos h0]; omega⟩, by rw [up2_j (by decide)]; exact hd, fun p hp' => ?_, fun k hk => ?_⟩, rfl⟩
    · rw [up2_o (by decide), up2_o (by decide), up2_o (by decide), up2_o (by decide)]
      exact hp p hp'
    · have hk : k < dN v := hk
      unfold dN at hk
      rw [if_pos h0] at hk
      omega
  · have hpos : 0 < vP v := by omega
    have eN : dN v = 6 := if_neg h0
    rw [if_pos (by rw [lit 0]; exact nI_lt hpos (by omega)), eN]
    have lots : ∀ j, fold (fun k (_ : Int64) => lN (lotN (seed + 1) (k + 1))) j (lN (seed + 1)) = lN (lotN (seed + 1) j) := fun j => by
      cases j <;> rfl
    obtain ⟨I', ⟨s1, f5, fo, r1⟩, h⟩ := loop1z (mkX q) (B_X0_draw_21 fu 12) (fun k => L_X0_draw_21 k fu 12) (fun n => rfl) 6 (fun k (_ : Int64) => lN (lotN (seed + 1) (k + 1))) (lN (seed + 1)) (fun j I' => smx ED2 I I' ∧ I' 12 5 = nI j ∧ (∀ b, b ≠ 5 → I' 12 b = I 12 b) ∧ ∀ k, k < j → I' 17 k = nI (2 ^ drD (seed + 1) (vP v) k) ∧ I' 18 k = nI (drW (seed + 1) k) ∧ I' 19 k = (if drS (seed + 1) (vP v) k = drD (seed + 1) (vP v) k then 0 else nI (2 ^ drS (seed + 1) (vP v) k))) (fun _ I' => some (mkX q I')) (by
      intro k I' hi
      unfold L_X0_draw_21
      rw [if_pos (show (6 : Int32) ≤ nI 6 by decide)]) (by
      intro k I' j hj hi
      obtain ⟨g1, g2, g3, g4⟩ := hi
      rw [lots j]
      have la := lotN_lt (a := seed + 1) (by omega) j
      have m1 : drD (seed + 1) (vP v) j < vP v := Nat.mod_lt _ hpos
      have m2 : drS (seed + 1) (vP v) j < vP v := Nat.mod_lt _ hpos
      refine ⟨up2 (up2 (up2 (up2 I' 17 j (nI (2 ^ drD (seed + 1) (vP v) j))) 18 j (nI (drW (seed + 1) j))) 19 j (if drS (seed + 1) (vP v) j = drD (seed + 1) (vP v) j then 0 else nI (2 ^ drS (seed + 1) (vP v) j))) 12 5 (nI (j + 1)), ⟨smx_tr (smx_tr (smx_tr (smx_tr g1 (smx_up (Or.inr (Or.inl rfl)))) (smx_up (Or.inr (Or.inr (Or.inl rfl))))) (smx_up (Or.inr (Or.inr (Or.inr rfl))))) (smx_up (Or.inl rfl)), up2_s, fun b hb => ?_, fun k hk => ?_⟩, ?_⟩
      · rw [up2_j hb, up2_o (by decide), up2_o (by decide), up2_o (by decide)]
        exact g3 b hb
      · rw [up2_o (by decide), up2_o (by decide), up2_o (by decide), up2_row, up2_o (by decide), up2_o (by decide), up2_row, up2_o (by decide), up2_o (by decide), up2_row, up2_o (by decide), up2_o (by decide)]
        by_cases hkj : k = j
        · subst hkj
          rw [if_pos rfl, if_pos rfl, if_pos rfl]
          exact ⟨rfl, rfl, rfl⟩
        · rw [if_neg hkj, if_neg hkj, if_neg hkj]
          exact g4 k (by omega)
      · have g0 : I' 12 0 = nI (vP v) := by rw [g3 0 (by decide)]; exact hP
        have e0 : ¬ (nI (vP v)).toInt64 = 0 := by
          rw [nI_l (by omega)]
          exact lN_ne0 hpos (by omega)
        unfold L_X0_draw_21 B_X0_draw_110
        rw [if_neg (show ¬ (6 : Int32) ≤ nI j by rw [lit 6]; exact nI_ge hj (by decide)), nx_N la, nx_N (nxN_lt _), nx_N (nxN_lt _), w9_N (nxN_lt _), E_gI eE12, bind_some', g0, if_neg e0, bind_some', if_neg e0, dr_N (nxN_lt _) hpos hP6, dr_N (nxN_lt _) hpos hP6, E_ob eE12, bind_some', bind_some', nI_1]
        have c : (nI (nxN (nxN (lotN (seed + 1) j)) % vP v) = nI (nxN (lotN (seed + 1) j) % vP v)) = (drS (seed + 1) (vP v) j = drD (seed + 1) (vP v) j) := propext ⟨fun q => nI_inj (by show drS _ _ _ < _; omega) (by show drD _ _ _ < _; omega) q, fun q => congrArg nI q⟩
        have sh1 : (1 : Int32) <<< (nI (nxN (lotN (seed + 1) j) % vP v) &&& 31) = nI (2 ^ drD (seed + 1) (vP v) j) := sh_n _ (by show drD _ _ _ < _; omega)
        have sh2 : (1 : Int32) <<< (nI (nxN (nxN (lotN (seed + 1) j)) % vP v) &&& 31) = nI (2 ^ drS (seed + 1) (vP v) j) := sh_n _ (by show drS _ _ _ < _; omega)
        rw [sh1, sh2]
        by_cases hc : drS (seed + 1) (vP v) j = drD (seed + 1) (vP v) j
        · rw [if_pos (c.mpr hc), if_pos hc, x_add g2 (by omega), b2_some]
          rfl
        · rw [if_neg (fun q => hc (c.mp q)), if_neg hc, x_add g2 (by omega), b2_some]
          rfl) (up2 I 12 5 0) ⟨smx_up (Or.inl rfl), up2_s, fun b hb => up2_j hb, fun k hk => by omega⟩ fu (by omega)
    have fr : ∀ i, 1 ≤ i → i ≤ 4 → I' (12 + i) = I (12 + i) := fun i h1 h2 => s1 _ (fun q => by unfold ED2 at q; omega)
    refine ⟨I', s1, ⟨⟨by rw [fo 0 (by decide)]; exact hP, hP6⟩, ⟨f5, by show 6 ≤ 10; omega⟩, by rw [fo 9 (by decide)]; exact hd, fun p hp' => ?_, fun k hk => r1 k hk⟩, h⟩
    rw [fr 1 (by omega) (by omega), fr 2 (by omega) (by omega), fr 3 (by omega) (by omega), fr 4 (by omega) (by omega)]
    exact hp p hp'
theorem sCgt_eq {v : Ev} : sCgt v = fold (fun p s => s ||| (if sCaught v p (sBeats v p) = 0 then 0 else (1 : Int32) <<< (nI p &&& 31))) (vP v) 0 := rfl
theorem m_byLots {J J1 : Nat → Nat → Int32} {v : Ev} {seed fu : Nat} (hM : RM J v) (hok : okEv v) (hm : MW J J1 v) (hs : seed < 2 ^ 30) (hfu : 200 < fu) :
    ∃ J', MW J J' v ∧ J' 0 36 = sAll (drawOf v (seed + 1) (dN v)) ∧ F_X8_byLots fu (mkM J1) 0 (nI seed) = some (sCgt (drawOf v (seed + 1) (dN v)), mkM J') := by
  obtain ⟨J2, t2, k2, m2⟩ := m_keeps (J := J1) (fu := fu) hfu
  obtain ⟨⟨hP, hP6⟩, -, hd, hp, -⟩ := hm.1
  have lots : ∀ j, fold (fun k (_ : Int64) => lN (lotN (seed + 1) (k + 1))) j (lN (seed + 1)) = lN (lotN (seed + 1) j) := fun j => by
    cases j <;> rfl
  have k2' : KP J1 (up2 J2 0 7 0) := ⟨fun a ha => (funext fun b => up2_o (by omega)).trans (k2.1 a ha), fun j h1 h2 => by rw [up2_j h1]; exact k2.2.1 j h1 h2, by
    intro i hi
    rw [up2_o (by decide), up2_o (by decide), up2_o (by decide)]
    exact k2.2.2.1 i hi, by rw [up2_o (by decide)]; exact k2.2.2.2⟩
  obtain ⟨J3, ⟨k3, f7, r3⟩, h3⟩ := loop1z mkM (B_X8_byLots_20 fu 0 0) (fun k => L_X8_byLots_20 k fu 0 0) (fun n => rfl) (dN v) (fun k (_ : Int64) => lN (lotN (seed + 1) (k + 1))) (lN (seed + 1)) (fun j J' => KP J1 J' ∧ J' 0 7 = nI j ∧ ∀ k, k < j → J' 4 k = nI (2 ^ drD (seed + 1) (vP v) k) ∧ J' 5 k = nI (drW (seed + 1) k) ∧ J' 6 k = (if drS (seed + 1) (vP v) k = drD (seed + 1) (vP v) k then 0 else nI (2 ^ drS (seed + 1) (vP v) k))) (fun _ J' => B_X8_byLots_149 fu 0 fu (mkM J') 0 0) (by
    intro k J' hi
    unfold L_X8_byLots_20 B_X8_byLots_146
    by_cases h0 : vP v = 0
    · have eN : dN v = 0 := if_pos h0
      rw [eN, if_neg (show ¬ (6 : Int32) ≤ nI 0 by decide), M_gI, bind_some', hi.1.2.1 0 (by decide) (by decide), hP, h0, if_pos (show nI 0 ≤ 0 by decide)]
    · have eN : dN v = 6 := if_neg h0
      rw [eN, if_pos (show (6 : Int32) ≤ nI 6 by decide)]) (by
    intro k J' j hj hi
    have hpos : 0 < vP v := by
      unfold dN at hj
      by_cases h0 : vP v = 0
      · rw [if_pos h0] at hj
        omega
      · omega
    have eN : dN v = 6 := if_neg (by omega)
    rw [eN] at hj
    obtain ⟨g1, g2, g4⟩ := hi
    rw [lots j]
    have la := lotN_lt (a := seed + 1) (by omega) j
    have m1 : drD (seed + 1) (vP v) j < vP v := Nat.mod_lt _ hpos
    have m2 : drS (seed + 1) (vP v) j < vP v := Nat.mod_lt _ hpos
    refine ⟨up2 (up2 (up2 (up2 J' 4 j (nI (2 ^ drD (seed + 1) (vP v) j))) 6 j (if drS (seed + 1) (vP v) j = drD (seed + 1) (vP v) j then 0 else nI (2 ^ drS (seed + 1) (vP v) j))) 5 j (nI (drW (seed + 1) j))) 0 7 (nI (j + 1)), ⟨?_, up2_s, fun k hk => ?_⟩, ?_⟩
    · have o : ∀ a, a ≠ 0 → a ≠ 4 → a ≠ 5 → a ≠ 6 → ∀ b, up2 (up2 (up2 (up2 J' 4 j (nI (2 ^ drD (seed + 1) (vP v) j))) 6 j (if drS (seed + 1) (vP v) j = drD (seed + 1) (vP v) j then 0 else nI (2 ^ drS (seed + 1) (vP v) j))) 5 j (nI (drW (seed + 1) j))) 0 7 (nI (j + 1)) a b = J' a b := fun a h1 h2 h3 h4 b => by rw [up2_o h1, up2_o h3, up2_o h4, up2_o h2]
      refine ⟨fun a ha => (funext fun b => o a (by omega) (by omega) (by omega) (by omega) b).trans (g1.1 a ha), fun b h1 h2 => by rw [up2_j h1, up2_o (by decide), up2_o (by decide), up2_o (by decide)]; exact g1.2.1 b h1 h2, fun i hi => ?_, ?_⟩
      · rw [o 22 (by decide) (by decide) (by decide) (by decide), o 22 (by decide) (by decide) (by decide) (by decide), o 22 (by decide) (by decide) (by decide) (by decide)]
        exact g1.2.2.1 i hi
      · rw [o 22 (by decide) (by decide) (by decide) (by decide)]
        exact g1.2.2.2
    · rw [up2_o (by decide), up2_o (by decide), up2_o (by decide), up2_row, up2_o (by decide), up2_row, up2_o (by decide), up2_o (by decide), up2_o (by decide), up2_o (by decide), up2_row, up2_o (by decide)]
      by_cases hkj : k = j
      · subst hkj
        rw [if_pos rfl, if_pos rfl, if_pos rfl]
        exact ⟨rfl, rfl, rfl⟩
      · rw [if_neg hkj, if_neg hkj, if_neg hkj]
        exact g4 k (by omega)
    · have g0 : J' 0 0 = nI (vP v) := by rw [g1.2.1 0 (by decide) (by decide)]; exact hP
      have e0 : ¬ (nI (vP v)).toInt64 = 0 := by
        rw [nI_l (by omega)]
        exact lN_ne0 hpos (by omega)
      unfold L_X8_byLots_20 B_X8_byLots_116
      rw [if_neg (show ¬ (6 : Int32) ≤ nI j by rw [lit 6]; exact nI_ge hj (by decide)), nx_N la, nx_N (nxN_lt _), nx_N (nxN_lt _), w9_N (nxN_lt _), M_gI, bind_some', g0, if_neg (nI_nle hpos (by omega)), bind_some', if_neg e0, bind_some', if_neg e0, dr_N (nxN_lt _) hpos hP6, dr_N (nxN_lt _) hpos hP6, nI_1]
      have c : (nI (nxN (lotN (seed + 1) j) % vP v) = nI (nxN (nxN (lotN (seed + 1) j)) % vP v)) = (drS (seed + 1) (vP v) j = drD (seed + 1) (vP v) j) := propext ⟨fun q => (nI_inj (by show drD _ _ _ < _; omega) (by show drS _ _ _ < _; omega) q).symm, fun q => congrArg nI q.symm⟩
      have sh1 : (1 : Int32) <<< (nI (nxN (lotN (seed + 1) j) % vP v) &&& 31) = nI (2 ^ drD (seed + 1) (vP v) j) := sh_n _ (by show drD _ _ _ < _; omega)
      have sh2 : (1 : Int32) <<< (nI (nxN (nxN (lotN (seed + 1) j)) % vP v) &&& 31) = nI (2 ^ drS (seed + 1) (vP v) j) := sh_n _ (by show drS _ _ _ < _; omega)
      rw [sh1, sh2, M_r4, bind_some', M_p4 (by omega), bind_some', M_r6, bind_some']
      by_cases hc : drS (seed + 1) (vP v) j = drD (seed + 1) (vP v) j
      · rw [if_pos (c.mpr hc), if_pos hc, M_p6 (by omega), bind_some', M_r5, bind_some', M_p5 (by omega), bind_some', M_pI, bind_some']
        rfl
      · rw [if_neg (fun q => hc (c.mp q)), if_neg hc, M_p6 (by omega), bind_some', M_r5, bind_some', M_p5 (by omega), bind_some', M_pI, bind_some']
        rfl) (up2 J2 0 7 0) ⟨k2', up2_s, fun k hk => by omega⟩ fu (by unfold dN; split <;> omega)
  have em3 : EM J3 (drawOf v (seed + 1) (dN v)) := by
    refine ⟨⟨by rw [k3.2.1 0 (by decide) (by decide)]; exact hP, hP6⟩, ⟨f7, by show dN v ≤ 10; unfold dN; split <;> omega⟩, by rw [k3.2.1 8 (by decide) (by decide)]; exact hd, fun i hi => ?_, fun k hk => r3 k hk⟩
    rw [k3.1 1 (by omega), k3.1 2 (by omega), k3.1 3 (by omega)]
    exact hp i hi
  have rm3 : RM J3 (drawOf v (seed + 1) (dN v)) := RM_of (MW_M hM hm) em3 ⟨rfl, rfl⟩ (k3.2.1 14 (by decide) (by decide)) (k3.1 9 (by omega)) (k3.1 8 (by omega))
  have ok3 := okEv_draw (a := seed + 1) hok hP6
  generalize hdv : drawOf v (seed + 1) (dN v) = dv at em3 rm3 ok3 ⊢
  have eP : vP dv = vP v := by rw [← hdv]; rfl
  obtain ⟨J4, t4, h4⟩ := loop1z mkM (B_X8_byLots_149 fu 0) (fun k => L_X8_byLots_149 k fu 0) (fun n => rfl) (vP dv) (fun p s => s ||| (if sCaught dv p (sBeats dv p) = 0 then 0 else (1 : Int32) <<< (nI p &&& 31))) 0 (fun _ J' => sme [18, 19] J3 J') (fun a J' => L_X8_byLots_149 (fun _ _ _ => none) fu 0 (mkM J') a (nI (vP dv))) (by
    intro k J' hi
    unfold L_X8_byLots_149
    rw [M_gI, bind_some', bind_some', sme8 hi (by decide), rm3.1.1, if_pos (nI_le (Nat.le_refl _) (by have := rm3.1.2; omega)), if_pos (nI_le (Nat.le_refl _) (by have := rm3.1.2; omega))]) (by
    intro k J' j hj hi
    have rm' := RM_sme rm3 hi (by decide)
    obtain ⟨J4, t4, m4⟩ := m_beatsOf (fu := fu) rm' hj hfu
    refine ⟨J4, sme_tr hi t4, ?_⟩
    unfold L_X8_byLots_149 B_X8_byLots_183
    rw [M_gI, bind_some', rm'.1.1, if_neg (nI_ge hj (by have := rm3.1.2; omega)), M_ob, bind_some', m4, b2_some, M_ob, bind_some', m_caughtBy (RM_sme rm' t4 (by decide)) hj hfu, b2_some, nI_1]
    by_cases hc : sCaught dv j (sBeats dv j) = 0
    · rw [if_pos hc, if_pos hc]
    · rw [if_neg hc, if_neg hc]) J3 sme_rf fu (by have := rm3.1.2; omega)
  have rm4 := RM_sme rm3 t4 (by decide)
  obtain ⟨J5, t5, m5⟩ := m_beatsAll (fu := fu) rm4 hfu
  have k5 : KP J1 (up2 J5 0 36 (sAll dv)) := by
    have k5 := KP_s (KP_s k3 t4 (by decide)) t5 (by decide)
    refine ⟨fun a ha => (funext fun b => up2_o (by omega)).trans (k5.1 a ha), fun j h1 h2 => by rw [up2_j h2]; exact k5.2.1 j h1 h2, ?_, by rw [up2_o (by decide)]; exact k5.2.2.2⟩
    intro i hi
    rw [up2_o (by decide), up2_o (by decide), up2_o (by decide)]
    exact k5.2.2.1 i hi
  obtain ⟨J6, w6, j6, m6⟩ := m_lays (fu := fu) hm k5 hfu
  refine ⟨J6, w6, by rw [j6 36 (by decide), up2_s], ?_⟩
  unfold F_X8_byLots
  rw [M_ob, bind_some', m2, bind_some', M_pI, bind_some', nI_l (by omega), lN_1]
  refine h3.trans (h4.trans ?_)
  unfold L_X8_byLots_149
  rw [M_gI, bind_some', rm4.1.1, if_pos (nI_le (Nat.le_refl _) (by have := rm3.1.2; omega)), M_ob, bind_some', m5, b2_some, M_pI, bind_some', M_ob, bind_some', m6, bind_some']
  rfl
