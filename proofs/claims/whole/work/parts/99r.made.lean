/-! A NEW LAW, made -/
def hA (q : Xp) (I : Nat → Nat → Int32) : Hp := mk (mkX q I) 1 0
def hB (q : Xp) (I : Nat → Nat → Int32) : Hp := uR (mk (hA q I) 7 3) (53 + 4 * q.1) 1 (some (54 + 4 * q.1))
def hC (q : Xp) (I : Nat → Nat → Int32) (len : Nat) : Hp := uR (mk (hB q I) 7 len) (53 + 4 * q.1) 0 (some (55 + 4 * q.1))
theorem hA_1 {q : Xp} {I : Nat → Nat → Int32} : (hA q I).1 = 54 + 4 * q.1 := by show 53 + 4 * q.1 + 1 = _; omega
theorem hB_1 {q : Xp} {I : Nat → Nat → Int32} : (hB q I).1 = 55 + 4 * q.1 := by show 53 + 4 * q.1 + 1 + 1 = _; omega
theorem hC_1 {q : Xp} {I : Nat → Nat → Int32} {len : Nat} : (hC q I len).1 = 56 + 4 * q.1 := by show 53 + 4 * q.1 + 1 + 1 + 1 = _; omega
theorem pR_ok {S : Hp} {o t j : Nat} {v : Option Nat} (h : ob S t (some o) = some o) (h2 : okRb S v = true) : pR S (some o) t j v = some (uR S o j v) := by
  unfold pR
  rw [h, bind_some', if_pos h2]
theorem ob_mk {S : Hp} {a t u len : Nat} (h : a < S.1) (h2 : (S.2.1 a).1 = u) : ob (mk S t len) u (some a) = some a := ob_lt (show a < S.1 + 1 by omega) (by show (if a = S.1 then (t, len) else S.2.1 a).1 = u; rw [if_neg (by omega)]; exact h2)
theorem nA_ok {S : Hp} {M len : Nat} (h : len ≤ M) (h2 : M < 2 ^ 31) : nA S M (nI len) = some (mk S 7 len) := by
  unfold nA
  rw [nI_clamp (by omega), if_neg (fun q => q.elim (nI_pos (by omega)) (by omega))]
theorem x_bd {S : Hp} {len : Nat} (h : len ≤ 160) : F_X7_bounded S (nI len) (nI 160) = some (nI len, S) := by
  have e : (if nI len < nI 160 then nI len else nI 160) = nI len := by
    by_cases c : len < 160
    · rw [if_pos (nI_lt c (by decide))]
    · rw [if_neg (nI_nlt (by omega) (by omega)), show len = 160 by omega]
  unfold F_X7_bounded
  rw [e]
  by_cases c : len = 0
  · rw [c]; rfl
  · rw [if_pos (show (0 : Int32) < nI len by rw [show (0 : Int32) = nI 0 from rfl]; exact nI_lt (by omega) (by omega))]
theorem hA_o {q : Xp} {I : Nat → Nat → Int32} : (hA q I).2.1 (53 + 4 * q.1) = (1, 0) := if_pos rfl
theorem hB_o {q : Xp} {I : Nat → Nat → Int32} : (hB q I).2.1 (53 + 4 * q.1) = (1, 0) := by
  show (if 53 + 4 * q.1 = (hA q I).1 then (7, 3) else (hA q I).2.1 (53 + 4 * q.1)) = _
  rw [hA_1, if_neg (by omega)]
  exact hA_o
theorem hC_o {q : Xp} {I : Nat → Nat → Int32} {len : Nat} : (hC q I len).2.1 (53 + 4 * q.1) = (1, 0) := by
  show (if 53 + 4 * q.1 = (hB q I).1 then (7, len) else (hB q I).2.1 (53 + 4 * q.1)) = _
  rw [hB_1, if_neg (by omega)]
  exact hB_o
theorem hB_40 {q : Xp} {I : Nat → Nat → Int32} : aL (hB q I) (some 40) 7 = some (nI 160) := by
  have e : (hB q I).2.1 40 = (7, 160) := by
    show (if 40 = (hA q I).1 then (7, 3) else if 40 = 53 + 4 * q.1 then (1, 0) else shX q 40) = _
    rw [hA_1, if_neg (by omega), if_neg (by omega)]
    rfl
  unfold aL
  rw [ob_lt (by rw [hB_1]; omega) (by rw [e]), bind_some', e]
  rfl
theorem n_o {q : Xp} {len t : Nat} {I : Nat → Nat → Int32} {a : Nat} (h : a < 53) (ht : (shL.getD a (0, 0)).1 = t) : ob (mkN q len I) t (some a) = some a := ob_lt (show a < 53 + 4 * (q.1 + 1) by omega) (by show (shX (nq q len) a).1 = t; rw [shX_lo h]; exact ht)
theorem n_at {q : Xp} {len p k : Nat} {I : Nat → Nat → Int32} {a : Nat} (h : a < 53) (ht : shL.getD a (0, 0) = (7, k)) (hp : p < k) (hk : k < 2 ^ 31) : F_X7_at (mkN q len I) (some a) (nI p) = some (I a p, mkN q len I) := at_in (n_o h (by rw [ht])) (by show (shX (nq q len) a).2 = k; rw [shX_lo h, ht]) hp hk
theorem n_r {q : Xp} {len j : Nat} {I : Nat → Nat → Int32} : gR (mkN q len I) (some (53 + 4 * q.1)) 1 j = some ([some (55 + 4 * q.1), some (54 + 4 * q.1), some (56 + 4 * q.1)].getD j none) := by
  unfold gR
  rw [ob_lt (show 53 + 4 * q.1 < 53 + 4 * (q.1 + 1) by omega) (show (shX (nq q len) (53 + 4 * q.1)).1 = 1 by rw [shX_n.1]), bind_some']
  show some (rvN q len (53 + 4 * q.1) j) = _
  unfold rvN
  rw [if_neg (by omega), rvX_law (q := nq q len) (t := q.1) (Nat.lt_succ_self _)]
theorem n_st1 {q : Xp} {len p : Nat} {I : Nat → Nat → Int32} {v : Int32} (hp : p < 3) : F_X7_store (mkN q len I) (some (54 + 4 * q.1)) (nI p) v = some (mkN q len (up2 I (54 + 4 * q.1) p v)) := store_in (ob_lt (show 54 + 4 * q.1 < 53 + 4 * (q.1 + 1) by omega) (show (shX (nq q len) (54 + 4 * q.1)).1 = 7 by rw [shX_n.2.1])) (show (shX (nq q len) (54 + 4 * q.1)).2 = 3 by rw [shX_n.2.1]) hp (by decide)
theorem n_st0 {q : Xp} {len p : Nat} {I : Nat → Nat → Int32} {v : Int32} (hp : p < len) (hl : len ≤ 160) : F_X7_store (mkN q len I) (some (55 + 4 * q.1)) (nI p) v = some (mkN q len (up2 I (55 + 4 * q.1) p v)) := store_in (ob_lt (show 55 + 4 * q.1 < 53 + 4 * (q.1 + 1) by omega) (show (shX (nq q len) (55 + 4 * q.1)).1 = 7 by rw [shX_n.2.2.1])) (show (shX (nq q len) (55 + 4 * q.1)).2 = len by rw [shX_n.2.2.1]) hp (by omega)
theorem x_ends {q : Xp} {len fu n0 : Nat} : ∀ d k m (I : Nat → Nat → Int32), k + d = 3 → d < m → (∀ i, i < k → I (54 + 4 * q.1) i = I 41 i) → ∃ I', (∀ a, a ≠ 54 + 4 * q.1 → I' a = I a) ∧ (∀ i, i < 3 → I' (54 + 4 * q.1) i = I 41 i) ∧ B_X2_init_69 fu n0 (53 + 4 * q.1) (some 41) m (mkN q len I) (nI k) = some (mkN q len I') := by
  intro d
  induction d with
  | zero =>
    intro k m I hk hm h
    obtain ⟨m, rfl⟩ : ∃ z, m = z + 1 := ⟨m - 1, by omega⟩
    refine ⟨I, fun _ _ => rfl, fun i hi => h i (by omega), ?_⟩
    show L_X2_init_69 _ _ _ _ _ _ _ = _
    unfold L_X2_init_69
    rw [if_pos (show (3 : Int32) ≤ nI k by rw [lit 3]; exact nI_le (by omega) (by omega))]
  | succ d ih =>
    intro k m I hk hm h
    obtain ⟨m, rfl⟩ : ∃ z, m = z + 1 := ⟨m - 1, by omega⟩
    obtain ⟨I', h1, h2, h3⟩ := ih (k + 1) m (up2 I (54 + 4 * q.1) k (I 41 k)) (by omega) (by omega) (fun i hi => by
      rw [up2_row, up2_o (by omega)]
      by_cases e : i = k
      · rw [if_pos e, e]
      · rw [if_neg e]; exact h i (by omega))
    refine ⟨I', fun a ha => (h1 a ha).trans (funext fun b => up2_o ha), fun i hi => by rw [h2 i hi, up2_o (by omega)], ?_⟩
    show L_X2_init_69 _ _ _ _ _ _ _ = _
    unfold L_X2_init_69
    have a41 : F_X7_at (mkN q len I) (some 41) (nI k) = some (I 41 k, mkN q len I) := n_at (k := 3) (by decide) rfl (by omega) (by decide)
    have r1 : gR (mkN q len I) (some (53 + 4 * q.1)) 1 1 = some (some (54 + 4 * q.1)) := n_r
    rw [if_neg (show ¬ (3 : Int32) ≤ nI k by rw [lit 3]; exact nI_ge (by omega) (by decide)), r1, bind_some', a41, b2_some, n_st1 (by omega), bind_some', nI_1]
    exact h3
theorem x_codes {q : Xp} {len fu n0 : Nat} (hl : len ≤ 160) (hfu : 200 < fu) : ∀ d k m (I : Nat → Nat → Int32), k + d = len → d < m → (∀ i, i < k → I (55 + 4 * q.1) i = I 40 i) → ∃ I', (∀ a, a ≠ 54 + 4 * q.1 → a ≠ 55 + 4 * q.1 → I' a = I a) ∧ (∀ i, i < 3 → I' (54 + 4 * q.1) i = I 41 i) ∧ (∀ i, i < len → I' (55 + 4 * q.1) i = I 40 i) ∧ B_X2_init_38 fu n0 (53 + 4 * q.1) (some 40) (some 41) (nI len) m (mkN q len I) (nI k) = some (mkN q len I') := by
  intro d
  induction d with
  | zero =>
    intro k m I hk hm h
    obtain ⟨m, rfl⟩ : ∃ z, m = z + 1 := ⟨m - 1, by omega⟩
    obtain ⟨I', h1, h2, h3⟩ := x_ends (q := q) (len := len) (fu := fu) (n0 := n0) 3 0 fu I rfl (by omega) (fun i hi => by omega)
    refine ⟨I', fun a ha _ => h1 a ha, h2, fun i hi => by rw [h1 _ (by omega)]; exact h i (by omega), ?_⟩
    show L_X2_init_38 _ _ _ _ _ _ _ _ _ = _
    unfold L_X2_init_38
    rw [if_pos (nI_le (by omega) (by omega))]
    exact h3
  | succ d ih =>
    intro k m I hk hm h
    obtain ⟨m, rfl⟩ : ∃ z, m = z + 1 := ⟨m - 1, by omega⟩
    obtain ⟨I', h1, h2, h3, h4⟩ := ih (k + 1) m (up2 I (55 + 4 * q.1) k (I 40 k)) (by omega) (by omega) (fun i hi => by
      rw [up2_row, up2_o (by omega)]
      by_cases e : i = k
      · rw [if_pos e, e]
      · rw [if_neg e]; exact h i (by omega))
    refine ⟨I', fun a ha hb => (h1 a ha hb).trans (funext fun b => up2_o hb), fun i hi => by rw [h2 i hi, up2_o (by omega)], fun i hi => by rw [h3 i hi, up2_o (by omega)], ?_⟩
    show L_X2_init_38 _ _ _ _ _ _ _ _ _ = _
    unfold L_X2_init_38
    have a40 : F_X7_at (mkN q len I) (some 40) (nI k) = some (I 40 k, mkN q len I) := n_at (k := 160) (by decide) rfl (by omega) (by decide)
    have r0 : gR (mkN q len I) (some (53 + 4 * q.1)) 1 0 = some (some (55 + 4 * q.1)) := n_r
    rw [if_neg (nI_ge (show k < len by omega) (by omega)), r0, bind_some', a40, b2_some, n_st0 (by omega) hl, bind_some', nI_1]
    exact h4
theorem x_made {q : Xp} {I : Nat → Nat → Int32} {len fu : Nat} (hl : len ≤ 160) (hfu : 200 < fu) : ∃ I', (∀ a, a < 53 + 4 * q.1 → I' a = I a) ∧ (∀ i, i < 3 → I' (54 + 4 * q.1) i = I 41 i) ∧ (∀ i, i < len → I' (55 + 4 * q.1) i = I 40 i) ∧ F_X2_init fu (hA q I) (53 + 4 * q.1) (some 40) (nI len) (some 41) = some (mkN q len I') := by
  obtain ⟨I', h1, h2, h3, h4⟩ := x_codes (q := q) (len := len) (fu := fu) (n0 := (hA q I).1) hl hfu len 0 fu (fun a b => if a = 56 + 4 * q.1 then 0 else if a = 55 + 4 * q.1 then 0 else if a = 54 + 4 * q.1 then 0 else if a = 53 + 4 * q.1 then 0 else I a b) (by omega) (by omega) (fun i hi => by omega)
  have lo : ∀ a, a < 53 + 4 * q.1 → (fun b => if a = 56 + 4 * q.1 then (0 : Int32) else if a = 55 + 4 * q.1 then 0 else if a = 54 + 4 * q.1 then 0 else if a = 53 + 4 * q.1 then 0 else I a b) = I a := fun a ha => funext fun b => by rw [if_neg (by omega), if_neg (by omega), if_neg (by omega), if_neg (by omega)]
  have g41 := congrFun (lo 41 (by omega))
  have g40 := congrFun (lo 40 (by omega))
  refine ⟨I', fun a ha => (h1 a (by omega) (by omega)).trans (lo a ha), fun i hi => (h2 i hi).trans (g41 i), fun i hi => (h3 i hi).trans (g40 i), ?_⟩
  have c : ∀ S : Hp, 53 + 4 * q.1 < S.1 → (hA q I).1 ≤ S.1 → chn (hA q I).1 S [some (53 + 4 * q.1), some 40, some 41, some (53 + 4 * q.1)] = some () := fun S h1 h2 => chn_ok h2 (fun r hr => by
    simp only [List.mem_cons, List.not_mem_nil, or_false] at hr
    rcases hr with rfl | rfl | rfl | rfl <;> exact okR_a (by omega))
  have p1 : pR (mk (hA q I) 7 3) (some (53 + 4 * q.1)) 1 1 (some (hA q I).1) = some (hB q I) := by
    rw [pR_ok (ob_mk (by rw [hA_1]; omega) (by rw [hA_o])) (okR_a (show (hA q I).1 < (hA q I).1 + 1 by omega)), hA_1]
    rfl
  have p2 : pR (mk (hB q I) 7 len) (some (53 + 4 * q.1)) 1 0 (some (hB q I).1) = some (hC q I len) := by
    rw [pR_ok (ob_mk (by rw [hB_1]; omega) (by rw [hB_o])) (okR_a (show (hB q I).1 < (hB q I).1 + 1 by omega)), hB_1]
    rfl
  have p3 : pR (mk (hC q I len) 7 len) (some (53 + 4 * q.1)) 1 2 (some (hC q I len).1) = some (mkN q len (fun a b => if a = 56 + 4 * q.1 then 0 else if a = 55 + 4 * q.1 then 0 else if a = 54 + 4 * q.1 then 0 else if a = 53 + 4 * q.1 then 0 else I a b)) := by
    rw [pR_ok (ob_mk (by rw [hC_1]; omega) (by rw [hC_o])) (okR_a (show (hC q I len).1 < (hC q I len).1 + 1 by omega)), hC_1, ← n_made]
    rfl
  have n3 : nA (hA q I) 3 3 = some (mk (hA q I) 7 3) := nA_ok (len := 3) (by decide) (by decide)
  unfold F_X2_init
  rw [c (hA q I) (by rw [hA_1]; omega) (Nat.le_refl _), bind_some', n3, bind_some', p1, bind_some', hB_40, bind_some', x_bd hl, b2_some, c (hB q I) (by rw [hB_1]; omega) (by rw [hB_1, hA_1]; omega), bind_some', nA_ok hl (by decide), bind_some', p2, bind_some', c (hC q I len) (by rw [hC_1]; omega) (by rw [hC_1, hA_1]; omega), bind_some', nA_ok hl (by decide), bind_some', p3, bind_some']
  exact h4
