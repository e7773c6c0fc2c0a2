/-! A NEW LAW -/
def nq (q : Xp) (len : Nat) : Xp := (q.1 + 1, ((fun t => if t = q.1 then len else q.2.1 t), q.2.2))
def rvN (q : Xp) (len : Nat) (k j : Nat) : Option Nat := if k = 42 ∧ j = q.1 then none else rvX (nq q len) k j
/-- with a law that no row names yet -/
def mkN (q : Xp) (len : Nat) (I : Nat → Nat → Int32) : Hp := (53 + 4 * (q.1 + 1), shX (nq q len), I, rvN q len)
theorem rvX_hi {q : Xp} {k j : Nat} (h : 53 ≤ k) : rvX q k j = if k < 53 + 4 * q.1 then (if (k - 53) % 4 = 0 then [some (k + 2), some (k + 1), some (k + 3)].getD j none else none) else none := by
  unfold rvX
  rw [if_neg (by omega), if_neg (by omega), if_neg (by omega), if_neg (by omega), if_neg (by omega), if_neg (by omega), if_neg (by omega), if_neg (by omega), if_neg (by omega), if_neg (by omega), if_neg (by omega), if_neg (by omega), if_neg (by omega)]
theorem rvX_lo {q : Xp} {len k j : Nat} (h : k < 53) (h2 : k ≠ 42) : rvX (nq q len) k j = rvX q k j := by
  simp only [rvX, nq, if_neg h2, if_pos h, evR]
theorem rvX_42 {q : Xp} {j : Nat} : rvX q 42 j = if j < q.1 then some (53 + 4 * j) else none := rfl
theorem okR_a {S : Hp} {a : Nat} (h : a < S.1) : okRb S (some a) = true := decide_eq_true h
theorem chn_ok {n0 : Nat} {S : Hp} {rs : List (Option Nat)} (h : n0 ≤ S.1) (h2 : ∀ r ∈ rs, okRb S r = true) : chn n0 S rs = some () := if_pos ⟨h, List.all_eq_true.mpr h2⟩
theorem ob_lt {S : Hp} {t a : Nat} (h1 : a < S.1) (h2 : (S.2.1 a).1 = t) : ob S t (some a) = some a := if_pos ⟨h1, h2⟩
theorem shX_n {q : Xp} {len : Nat} : shX (nq q len) (53 + 4 * q.1) = (1, 0) ∧ shX (nq q len) (54 + 4 * q.1) = (7, 3) ∧ shX (nq q len) (55 + 4 * q.1) = (7, len) ∧ shX (nq q len) (56 + 4 * q.1) = (7, len) := by
  obtain ⟨h1, h2, h3, h4⟩ := shX_law (q := nq q len) (t := q.1) (Nat.lt_succ_self _)
  have e : (nq q len).2.1 q.1 = len := if_pos rfl
  rw [e] at h3 h4
  exact ⟨h1, h2, h3, h4⟩
theorem shX_lo {q : Xp} {k : Nat} (h : k < 53) : shX q k = shL.getD k (0, 0) := if_pos h
theorem n_made {q : Xp} {len : Nat} {I : Nat → Nat → Int32} : uR (mk (uR (mk (uR (mk (mk (mkX q I) 1 0) 7 3) (53 + 4 * q.1) 1 (some (54 + 4 * q.1))) 7 len) (53 + 4 * q.1) 0 (some (55 + 4 * q.1))) 7 len) (53 + 4 * q.1) 2 (some (56 + 4 * q.1)) = mkN q len (fun a b => if a = 56 + 4 * q.1 then 0 else if a = 55 + 4 * q.1 then 0 else if a = 54 + 4 * q.1 then 0 else if a = 53 + 4 * q.1 then 0 else I a b) := by
  obtain ⟨s1, s2, s3, s4⟩ := shX_n (q := q) (len := len)
  have z1 : 53 + 4 * q.1 + 1 = 54 + 4 * q.1 := by omega
  have z2 : 53 + 4 * q.1 + 1 + 1 = 55 + 4 * q.1 := by omega
  have z3 : 53 + 4 * q.1 + 1 + 1 + 1 = 56 + 4 * q.1 := by omega
  have hsh : (fun k => if k = 53 + 4 * q.1 + 1 + 1 + 1 then (7, len) else if k = 53 + 4 * q.1 + 1 + 1 then (7, len) else if k = 53 + 4 * q.1 + 1 then (7, 3) else if k = 53 + 4 * q.1 then (1, 0) else shX q k) = shX (nq q len) := by
    funext k
    by_cases k4 : k = 53 + 4 * q.1 + 1 + 1 + 1
    · rw [if_pos k4, k4, z3, s4]
    rw [if_neg k4]
    by_cases k3 : k = 53 + 4 * q.1 + 1 + 1
    · rw [if_pos k3, k3, z2, s3]
    rw [if_neg k3]
    by_cases k2 : k = 53 + 4 * q.1 + 1
    · rw [if_pos k2, k2, z1, s2]
    rw [if_neg k2]
    by_cases k1 : k = 53 + 4 * q.1
    · rw [if_pos k1, k1, s1]
    rw [if_neg k1]
    unfold shX
    rw [show (nq q len).1 = q.1 + 1 from rfl]
    by_cases k0 : k < 53
    · rw [if_pos k0, if_pos k0]
    rw [if_neg k0, if_neg k0]
    by_cases kl : k < 53 + 4 * q.1
    · have e : (nq q len).2.1 ((k - 53) / 4) = q.2.1 ((k - 53) / 4) := if_neg (by omega)
      rw [if_pos kl, if_pos (show k < 53 + 4 * (q.1 + 1) by omega), e]
    · rw [if_neg kl, if_neg (show ¬ k < 53 + 4 * (q.1 + 1) by omega)]
  have hrv : ∀ k j, (if k = 53 + 4 * q.1 ∧ j = 2 then some (56 + 4 * q.1) else if k = 53 + 4 * q.1 + 1 + 1 + 1 then none else if k = 53 + 4 * q.1 ∧ j = 0 then some (55 + 4 * q.1) else if k = 53 + 4 * q.1 + 1 + 1 then none else if k = 53 + 4 * q.1 ∧ j = 1 then some (54 + 4 * q.1) else if k = 53 + 4 * q.1 + 1 then none else if k = 53 + 4 * q.1 then none else rvX q k j) = rvN q len k j := by
    intro k j
    unfold rvN
    by_cases k1 : k = 53 + 4 * q.1
    · subst k1
      rw [if_neg (show ¬ (53 + 4 * q.1 = 42 ∧ j = q.1) by omega), rvX_hi (q := nq q len) (k := 53 + 4 * q.1) (by omega), show (nq q len).1 = q.1 + 1 from rfl, if_pos (show 53 + 4 * q.1 < 53 + 4 * (q.1 + 1) by omega), if_pos (show (53 + 4 * q.1 - 53) % 4 = 0 by omega), if_neg (show ¬ 53 + 4 * q.1 = 53 + 4 * q.1 + 1 + 1 + 1 by omega), if_neg (show ¬ 53 + 4 * q.1 = 53 + 4 * q.1 + 1 + 1 by omega), if_neg (show ¬ 53 + 4 * q.1 = 53 + 4 * q.1 + 1 by omega), if_pos (show 53 + 4 * q.1 = 53 + 4 * q.1 from rfl)]
      match j with
      | 0 =>
        rw [if_neg (by omega), if_pos ⟨rfl, rfl⟩, show 55 + 4 * q.1 = 53 + 4 * q.1 + 2 by omega]
        rfl
      | 1 =>
        rw [if_neg (by omega), if_neg (by omega), if_pos ⟨rfl, rfl⟩, show 54 + 4 * q.1 = 53 + 4 * q.1 + 1 by omega]
        rfl
      | 2 =>
        rw [if_pos ⟨rfl, rfl⟩, show 56 + 4 * q.1 = 53 + 4 * q.1 + 3 by omega]
        rfl
      | j + 3 =>
        rw [if_neg (by omega), if_neg (by omega), if_neg (by omega)]
        rfl
    · rw [if_neg (show ¬ (k = 53 + 4 * q.1 ∧ j = 2) from fun h => k1 h.1), if_neg (show ¬ (k = 53 + 4 * q.1 ∧ j = 0) from fun h => k1 h.1), if_neg (show ¬ (k = 53 + 4 * q.1 ∧ j = 1) from fun h => k1 h.1), if_neg k1]
      by_cases k0 : k < 53
      · rw [if_neg (by omega), if_neg (by omega), if_neg (by omega)]
        by_cases k42 : k = 42
        · subst k42
          rw [rvX_42, rvX_42, show (nq q len).1 = q.1 + 1 from rfl]
          by_cases hj : j = q.1
          · rw [if_pos (show 42 = 42 ∧ j = q.1 from ⟨rfl, hj⟩), if_neg (by omega)]
          · rw [if_neg (show ¬ (42 = 42 ∧ j = q.1) from fun h => hj h.2)]
            by_cases hj2 : j < q.1
            · rw [if_pos hj2, if_pos (by omega)]
            · rw [if_neg hj2, if_neg (by omega)]
        · rw [if_neg (show ¬ (k = 42 ∧ j = q.1) from fun h => k42 h.1), rvX_lo k0 k42]
      · rw [if_neg (show ¬ (k = 42 ∧ j = q.1) by omega), rvX_hi (q := nq q len) (by omega), rvX_hi (q := q) (by omega), show (nq q len).1 = q.1 + 1 from rfl]
        by_cases kl : k < 53 + 4 * q.1
        · rw [if_neg (by omega), if_neg (by omega), if_neg (by omega), if_pos kl, if_pos (show k < 53 + 4 * (q.1 + 1) by omega)]
        · rw [if_neg kl]
          by_cases kh : k < 53 + 4 * (q.1 + 1)
          · rw [if_pos kh, if_neg (show ¬ (k - 53) % 4 = 0 by omega)]
            repeat' split
            all_goals rfl
          · rw [if_neg kh]
            repeat' split
            all_goals rfl
  refine Prod.ext (show 53 + 4 * q.1 + 1 + 1 + 1 + 1 = 53 + 4 * (q.1 + 1) by omega) (Prod.ext hsh (Prod.ext ?_ (funext fun k => funext fun j => hrv k j)))
  funext a b
  show (if a = 53 + 4 * q.1 + 1 + 1 + 1 then 0 else if a = 53 + 4 * q.1 + 1 + 1 then 0 else if a = 53 + 4 * q.1 + 1 then 0 else if a = 53 + 4 * q.1 then 0 else I a b) = _
  rw [z3, z2, z1]
  rfl
