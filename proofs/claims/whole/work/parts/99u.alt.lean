/-! text, tied -/
theorem K_gI {q : Xp} {I : Nat → Nat → Int32} {j : Nat} : gI (mkX q I) (some 0) 5 j = some (I 0 j) := X_gI (by decide) rfl
theorem K_pI {q : Xp} {I : Nat → Nat → Int32} {j : Nat} {v : Int32} : pI (mkX q I) (some 0) 5 j v = some (mkX q (up2 I 0 j v)) := X_pI (by decide) rfl
theorem K_r4 {q : Xp} {I : Nat → Nat → Int32} : gR (mkX q I) (some 0) 5 4 = some (some 34) := (X_gR (by decide) rfl).trans rfl
theorem K_r5 {q : Xp} {I : Nat → Nat → Int32} : gR (mkX q I) (some 0) 5 5 = some (some 39) := (X_gR (by decide) rfl).trans rfl
theorem K_aL {q : Xp} {I : Nat → Nat → Int32} : aL (mkX q I) (some 42) 8 = some (nI 6) := by
  unfold aL
  rw [X_o42, bind_some']
  rfl
theorem c_1 {q : Xp} {I : Nat → Nat → Int32} : chn (mkX q I).1 (mkX q I) [some 0] = some () := chn_ok (Nat.le_refl _) (fun r hr => by
  simp only [List.mem_cons, List.not_mem_nil, or_false] at hr
  rcases hr with rfl
  exact okR_a (show 0 < 53 + 4 * q.1 by omega))
theorem T_pI {q : Xp} {I : Nat → Nat → Int32} {j : Nat} {v : Int32} : pI (mkX q I) (some 34) 4 j v = some (mkX q (up2 I 34 j v)) := X_pI (by decide) rfl
theorem N_gR {q : Xp} {I : Nat → Nat → Int32} {len j : Nat} : gR (mkN q len I) (some 0) 5 j = some (rvX q 0 j) := by
  unfold gR
  rw [n_o (a := 0) (t := 5) (by decide) rfl, bind_some']
  show some (if 0 = 42 ∧ j = q.1 then none else rvX (nq q len) 0 j) = _
  rw [if_neg (by omega)]
  rfl
theorem N_pI {q : Xp} {I : Nat → Nat → Int32} {len a t j : Nat} {v : Int32} (h : a < 53) (ht : (shL.getD a (0, 0)).1 = t) : pI (mkN q len I) (some a) t j v = some (mkN q len (up2 I a j v)) := by
  unfold pI
  rw [n_o h ht]
  rfl
theorem N_gI {q : Xp} {I : Nat → Nat → Int32} {len a t j : Nat} (h : a < 53) (ht : (shL.getD a (0, 0)).1 = t) : gI (mkN q len I) (some a) t j = some (I a j) := by
  unfold gI
  rw [n_o h ht]
  rfl
/-- the row names the new law -/
theorem N_rP {q : Xp} {I : Nat → Nat → Int32} {len : Nat} (hr : q.1 < 6) : rP (mkN q len I) (some 42) 8 1 (nI q.1) (some (53 + 4 * q.1)) = some (mkX (nq q len) I) := by
  have oN : ob (mkN q len I) 1 (some (53 + 4 * q.1)) = some (53 + 4 * q.1) := ob_lt (show 53 + 4 * q.1 < 53 + 4 * (q.1 + 1) by omega) (show (shX (nq q len) (53 + 4 * q.1)).1 = 1 by rw [shX_n.1])
  have e42 : ((mkN q len I).2.1 42).2 = 6 := by
    show (shX (nq q len) 42).2 = 6
    rw [shX_lo (by decide)]
    rfl
  unfold rP
  rw [n_o (a := 42) (t := 8) (by decide) rfl, bind_some', oN, bind_some', e42, if_pos (inb_nI hr (by decide)), nI_clamp (by omega)]
  refine congrArg some (Prod.ext rfl (Prod.ext rfl (Prod.ext rfl (funext fun k => funext fun j => ?_))))
  show (if k = 42 ∧ j = q.1 then some (53 + 4 * q.1) else if k = 42 ∧ j = q.1 then none else rvX (nq q len) k j) = rvX (nq q len) k j
  by_cases h : k = 42 ∧ j = q.1
  · rw [if_pos h, h.1, h.2, rvX_42, if_pos (show q.1 < (nq q len).1 from Nat.lt_succ_self _)]
  · rw [if_neg h, if_neg h]
theorem TP_b {I J : Nat → Nat → Int32} (h : TP I J) : ∃ n b, BY I b n ∧ BM J b n := by
  obtain ⟨n, h1, h2, h3, h4⟩ := h
  have g : ∀ i, i < n → J 7 i = nI ((J 7 i).toNatClampNeg) ∧ (J 7 i).toNatClampNeg < 256 := fun i hi => by
    obtain ⟨b, hb, e⟩ := (h4 i hi).2
    rw [e, nI_clamp (by omega)]
    exact ⟨rfl, hb⟩
  exact ⟨n, fun i => (J 7 i).toNatClampNeg, ⟨h1, h2, fun i hi => ⟨(h4 i hi).1.trans (g i hi).1, (g i hi).2⟩⟩, h1, h3, g⟩
theorem al_text {fu : Nat} (hfu : 2000 < fu) : Al_text Rel fu := by
  rintro SX SM ⟨q, I, J, v, rfl, rfl, hR⟩
  obtain ⟨-, -, -, -, -, ⟨t1, t2, t3, t4, t5⟩, hTP, -, -, hW⟩ := id hR
  obtain ⟨n, b, hB, hM⟩ := TP_b hTP
  unfold F_X7_text
  rw [K_gI, bind_some', t3, X_r6, bind_some', K_aL, bind_some']
  by_cases h6 : q.1 < 6
  · rw [if_pos (nI_lt h6 (by decide)), K_r5, bind_some', R_ob, bind_some', c_1, bind_some']
    rcases tx_core (q := q) (fu := fu) hB hM hW t4 h6 hfu with ⟨e, I', J', -, a1, a2, a3, a4, a5, a6, a7⟩ | ⟨len, I', J', c, bd, a1, a2, a3, a4, a5, a6, a7⟩
    · have w : ∀ a, ¬ CW a → I' a = I a := a1
      refine ⟨-100 - nI (sN b n e), mkX q (up2 I' 34 1 0), mkM J', ?_, a7, q, _, J', v, rfl, rfl, Rv_tx hR ⟨rfl, Nat.le_refl _, t2, fun _ _ => rfl⟩ (fun a _ h2 _ h4 => (funext fun b => up2_o h4).trans (w a h2)) ?_ ?_ up2_s a4 a5 a6 (fun t h1 h2 => by omega)⟩
      · rw [a3, b2_some, K_r4, bind_some', X_ob34, bind_some']
        unfold F_X6_empty
        rw [T_pI, bind_some', bind_some', if_pos rfl, K_r5, bind_some', R_gI, bind_some', up2_o (by decide), a2]
      · rw [up2_o (by decide), w 0 (fun h => by unfold CW at h; omega)]
      · rw [up2_o (by decide), w 0 (fun h => by unfold CW at h; omega)]; exact t3
    · have w0 : I' 0 = I 0 := a1 0 (by omega) (fun h => by unfold CW at h; omega)
      refine ⟨nI q.1, mkX (nq q len) (up2 (up2 I' 34 1 0) 0 7 (nI (q.1 + 1))), mkM J', ?_, a7, nq q len, _, J', v, rfl, rfl, Rv_tx hR ⟨rfl, Nat.le_succ _, h6, fun t ht => if_neg (by omega)⟩ (fun a h1 h2 h3 h4 => (funext fun b => by rw [up2_o h3, up2_o h4]).trans (a1 a h1 h2)) ?_ up2_s (by rw [up2_o (by decide), up2_s]) a3 a4 a5 (fun t h1 h2 => ?_)⟩
      · rw [a2, b2_some, N_gR, bind_some']
        have o34 : ob (mkN q len I') 4 (some 34) = some 34 := n_o (by decide) rfl
        have p34 : pI (mkN q len I') (some 34) 4 1 0 = some (mkN q len (up2 I' 34 1 0)) := N_pI (by decide) rfl
        have g0 : gI (mkN q len (up2 I' 34 1 0)) (some 0) 5 7 = some (nI q.1) := by
          rw [N_gI (a := 0) (t := 5) (by decide) rfl, up2_o (by decide), w0, t3]
        have ev : rvX q 0 4 = some 34 := rfl
        have e6 : rvX q 0 6 = some 42 := rfl
        unfold F_X6_empty
        rw [ev, o34, bind_some', p34, bind_some', bind_some', if_neg (by intro h; cases h), N_gR, bind_some', e6, g0, bind_some', N_rP h6, bind_some', K_gI, bind_some', up2_o (by decide), w0, t3, nI_1, K_pI, bind_some', K_gI, bind_some', up2_s, nI_pred]
      · rw [up2_j (by decide), up2_o (by decide), w0]
      · obtain rfl : t = q.1 := by have : (nq q len).1 = q.1 + 1 := rfl; omega
        refine ⟨c, bd, LT_mono a6 ?_ ?_ rfl rfl⟩
        · exact funext fun b => by rw [up2_o (by omega), up2_o (by omega)]
        · exact funext fun b => by rw [up2_o (by omega), up2_o (by omega)]
  · have e6 : q.1 = 6 := by omega
    refine ⟨-4, mkX q I, mkM J, by rw [if_neg (nI_nlt (by omega) (by omega))], ?_, q, I, J, v, rfl, rfl, hR⟩
    unfold F_X8_text
    rw [M_gI, bind_some', t4, if_pos (show nI q.1 = 6 by rw [e6]; rfl)]
