/-! THE CLASS'S HEAP -/
abbrev Xp : Type := Nat × ((Nat → Nat) × (Option Nat × (Option Nat × Option Nat)))
def shL : List (Nat × Nat) := [(5, 0), (0, 0), (7, 6), (7, 6), (7, 6), (7, 6), (7, 10), (7, 10), (7, 10), (7, 6), (7, 6), (7, 6), (0, 0), (7, 6), (7, 6), (7, 6), (7, 6), (7, 10), (7, 10), (7, 10), (7, 6), (7, 6), (7, 6), (0, 0), (7, 6), (7, 6), (7, 6), (7, 6), (7, 10), (7, 10), (7, 10), (7, 6), (7, 6), (7, 6), (4, 0), (7, 160), (7, 161), (7, 161), (7, 161), (2, 0), (7, 160), (7, 3), (8, 6), (9, 4), (7, 10), (3, 0), (7, 40), (3, 0), (7, 40), (3, 0), (7, 40), (3, 0), (7, 40)]
def shX (q : Xp) (k : Nat) : Nat × Nat := if k < 53 then shL.getD k (0, 0) else if k < 53 + 4 * q.1 then (if (k - 53) % 4 = 0 then (1, 0) else if (k - 53) % 4 = 1 then (7, 3) else (7, q.2.1 ((k - 53) / 4))) else (0, 0)
def evR (e : Nat) (l : Option Nat) (j : Nat) : Option Nat := [none, some (e + 1), some (e + 2), some (e + 3), some (e + 4), none, some (e + 5), some (e + 6), some (e + 7), none, none, l, some (e + 8), some (e + 9), some (e + 10)].getD j none
def rvX (q : Xp) (k j : Nat) : Option Nat :=
  if k = 0 then [some 1, some 12, some 23, none, some 34, some 39, some 42, none, some 43, some 44].getD j none
  else if k = 1 then evR 1 q.2.2.1 j
  else if k = 12 then evR 12 q.2.2.2.1 j
  else if k = 23 then evR 23 q.2.2.2.2 j
  else if k = 34 then [some 35, none, some 36, some 37, some 38].getD j none
  else if k = 39 then [some 34, none, none, some 40, none, some 41].getD j none
  else if k = 42 then (if j < q.1 then some (53 + 4 * j) else none)
  else if k = 43 then (if j < 4 then some (45 + 2 * j) else none)
  else if k = 45 then [none, none, some 46].getD j none
  else if k = 47 then [none, none, some 48].getD j none
  else if k = 49 then [none, none, some 50].getD j none
  else if k = 51 then [none, none, some 52].getD j none
  else if k < 53 then none
  else if k < 53 + 4 * q.1 then (if (k - 53) % 4 = 0 then [some (k + 2), some (k + 1), some (k + 3)].getD j none else none)
  else none
def mkX (q : Xp) (I : Nat → Nat → Int32) : Hp := (53 + 4 * q.1, shX q, I, rvX q)
def lawR (q : Xp) (e : Nat) : Option Nat := if e = 1 then q.2.2.1 else if e = 12 then q.2.2.2.1 else q.2.2.2.2
def isE (e : Nat) : Prop := e = 1 ∨ e = 12 ∨ e = 23
theorem X_ob {q : Xp} {I : Nat → Nat → Int32} {a t : Nat} (ha : a < 53) (h : (shL.getD a (0, 0)).1 = t) : ob (mkX q I) t (some a) = some a := by
  show (if a < 53 + 4 * q.1 ∧ (shX q a).1 = t then some a else none) = some a
  rw [if_pos ⟨by omega, by unfold shX; rw [if_pos ha]; exact h⟩]
theorem X_gI {q : Xp} {I : Nat → Nat → Int32} {a t j : Nat} (ha : a < 53) (h : (shL.getD a (0, 0)).1 = t) : gI (mkX q I) (some a) t j = some (I a j) := by
  unfold gI
  rw [X_ob ha h]
  rfl
theorem X_gR {q : Xp} {I : Nat → Nat → Int32} {a t j : Nat} (ha : a < 53) (h : (shL.getD a (0, 0)).1 = t) : gR (mkX q I) (some a) t j = some (rvX q a j) := by
  unfold gR
  rw [X_ob ha h]
  rfl
theorem X_pI {q : Xp} {I : Nat → Nat → Int32} {a t j : Nat} {v : Int32} (ha : a < 53) (h : (shL.getD a (0, 0)).1 = t) : pI (mkX q I) (some a) t j v = some (mkX q (up2 I a j v)) := by
  unfold pI
  rw [X_ob ha h]
  rfl
theorem E_lt {e : Nat} (h : isE e) : e < 53 := by rcases h with rfl | rfl | rfl <;> decide
theorem E_sh {e : Nat} (h : isE e) : (shL.getD e (0, 0)).1 = 0 := by rcases h with rfl | rfl | rfl <;> rfl
theorem E_ob {q : Xp} {I : Nat → Nat → Int32} {e : Nat} (h : isE e) : ob (mkX q I) 0 (some e) = some e := X_ob (E_lt h) (E_sh h)
theorem E_gI {q : Xp} {I : Nat → Nat → Int32} {e j : Nat} (h : isE e) : gI (mkX q I) (some e) 0 j = some (I e j) := X_gI (E_lt h) (E_sh h)
theorem E_pI {q : Xp} {I : Nat → Nat → Int32} {e j : Nat} {v : Int32} (h : isE e) : pI (mkX q I) (some e) 0 j v = some (mkX q (up2 I e j v)) := X_pI (E_lt h) (E_sh h)
theorem E_r1 {q : Xp} {I : Nat → Nat → Int32} {e : Nat} (h : isE e) : gR (mkX q I) (some e) 0 1 = some (some (e + 1)) := (X_gR (E_lt h) (E_sh h)).trans (by rcases h with rfl | rfl | rfl <;> rfl)
theorem E_r2 {q : Xp} {I : Nat → Nat → Int32} {e : Nat} (h : isE e) : gR (mkX q I) (some e) 0 2 = some (some (e + 2)) := (X_gR (E_lt h) (E_sh h)).trans (by rcases h with rfl | rfl | rfl <;> rfl)
theorem E_r3 {q : Xp} {I : Nat → Nat → Int32} {e : Nat} (h : isE e) : gR (mkX q I) (some e) 0 3 = some (some (e + 3)) := (X_gR (E_lt h) (E_sh h)).trans (by rcases h with rfl | rfl | rfl <;> rfl)
theorem E_r4 {q : Xp} {I : Nat → Nat → Int32} {e : Nat} (h : isE e) : gR (mkX q I) (some e) 0 4 = some (some (e + 4)) := (X_gR (E_lt h) (E_sh h)).trans (by rcases h with rfl | rfl | rfl <;> rfl)
theorem E_r6 {q : Xp} {I : Nat → Nat → Int32} {e : Nat} (h : isE e) : gR (mkX q I) (some e) 0 6 = some (some (e + 5)) := (X_gR (E_lt h) (E_sh h)).trans (by rcases h with rfl | rfl | rfl <;> rfl)
theorem E_r7 {q : Xp} {I : Nat → Nat → Int32} {e : Nat} (h : isE e) : gR (mkX q I) (some e) 0 7 = some (some (e + 6)) := (X_gR (E_lt h) (E_sh h)).trans (by rcases h with rfl | rfl | rfl <;> rfl)
theorem E_r8 {q : Xp} {I : Nat → Nat → Int32} {e : Nat} (h : isE e) : gR (mkX q I) (some e) 0 8 = some (some (e + 7)) := (X_gR (E_lt h) (E_sh h)).trans (by rcases h with rfl | rfl | rfl <;> rfl)
theorem E_r12 {q : Xp} {I : Nat → Nat → Int32} {e : Nat} (h : isE e) : gR (mkX q I) (some e) 0 12 = some (some (e + 8)) := (X_gR (E_lt h) (E_sh h)).trans (by rcases h with rfl | rfl | rfl <;> rfl)
theorem E_r13 {q : Xp} {I : Nat → Nat → Int32} {e : Nat} (h : isE e) : gR (mkX q I) (some e) 0 13 = some (some (e + 9)) := (X_gR (E_lt h) (E_sh h)).trans (by rcases h with rfl | rfl | rfl <;> rfl)
theorem E_r14 {q : Xp} {I : Nat → Nat → Int32} {e : Nat} (h : isE e) : gR (mkX q I) (some e) 0 14 = some (some (e + 10)) := (X_gR (E_lt h) (E_sh h)).trans (by rcases h with rfl | rfl | rfl <;> rfl)
theorem E_law {q : Xp} {I : Nat → Nat → Int32} {e : Nat} (h : isE e) : gR (mkX q I) (some e) 0 11 = some (lawR q e) := (X_gR (E_lt h) (E_sh h)).trans (by rcases h with rfl | rfl | rfl <;> rfl)
theorem at_in {S : Hp} {a p len : Nat} (ho : ob S 7 (some a) = some a) (hl : (S.2.1 a).2 = len) (hp : p < len) (h2 : len < 2 ^ 31) : F_X7_at S (some a) (nI p) = some (S.2.2.1 a p, S) := by
  unfold F_X7_at B_X7_at_16 B_X7_at_17 aL aG
  rw [if_neg (nI_pos (by omega)), ho, bind_some', bind_some', hl, if_neg (show ¬ Int32.ofNat len ≤ nI p from nI_ge hp h2), bind_some', hl, if_pos (inb_nI hp h2), nI_clamp (by omega)]
  rfl
theorem store_in {S : Hp} {a p len : Nat} {v : Int32} (ho : ob S 7 (some a) = some a) (hl : (S.2.1 a).2 = len) (hp : p < len) (h2 : len < 2 ^ 31) : F_X7_store S (some a) (nI p) v = some (uI S a p v) := by
  unfold F_X7_store B_X7_store_14 aL aP
  rw [if_neg (nI_pos (by omega)), ho, bind_some', bind_some', hl, if_neg (show ¬ Int32.ofNat len ≤ nI p from nI_ge hp h2), bind_some', hl, if_pos (inb_nI hp h2), nI_clamp (by omega)]
  rfl
theorem X_at {q : Xp} {I : Nat → Nat → Int32} {a p : Nat} (len : Nat) (ha : a < 53) (hs : shL.getD a (0, 0) = (7, len)) (hp : p < len) (h2 : len < 2 ^ 31) : F_X7_at (mkX q I) (some a) (nI p) = some (I a p, mkX q I) :=
  at_in (X_ob ha (by rw [hs])) (by show (shX q a).2 = len; unfold shX; rw [if_pos ha, hs]) hp h2
theorem X_st {q : Xp} {I : Nat → Nat → Int32} {a p : Nat} {v : Int32} (len : Nat) (ha : a < 53) (hs : shL.getD a (0, 0) = (7, len)) (hp : p < len) (h2 : len < 2 ^ 31) : F_X7_store (mkX q I) (some a) (nI p) v = some (mkX q (up2 I a p v)) :=
  store_in (X_ob ha (by rw [hs])) (by show (shX q a).2 = len; unfold shX; rw [if_pos ha, hs]) hp h2
theorem E_a1 {q : Xp} {I : Nat → Nat → Int32} {e p : Nat} (h : isE e) (hp : p < 6) : F_X7_at (mkX q I) (some (e + 1)) (nI p) = some (I (e + 1) p, mkX q I) := X_at 6 (by rcases h with rfl | rfl | rfl <;> decide) (by rcases h with rfl | rfl | rfl <;> rfl) hp (by decide)
theorem E_s1 {q : Xp} {I : Nat → Nat → Int32} {e p : Nat} {v : Int32} (h : isE e) (hp : p < 6) : F_X7_store (mkX q I) (some (e + 1)) (nI p) v = some (mkX q (up2 I (e + 1) p v)) := X_st 6 (by rcases h with rfl | rfl | rfl <;> decide) (by rcases h with rfl | rfl | rfl <;> rfl) hp (by decide)
theorem E_a2 {q : Xp} {I : Nat → Nat → Int32} {e p : Nat} (h : isE e) (hp : p < 6) : F_X7_at (mkX q I) (some (e + 2)) (nI p) = some (I (e + 2) p, mkX q I) := X_at 6 (by rcases h with rfl | rfl | rfl <;> decide) (by rcases h with rfl | rfl | rfl <;> rfl) hp (by decide)
theorem E_s2 {q : Xp} {I : Nat → Nat → Int32} {e p : Nat} {v : Int32} (h : isE e) (hp : p < 6) : F_X7_store (mkX q I) (some (e + 2)) (nI p) v = some (mkX q (up2 I (e + 2) p v)) := X_st 6 (by rcases h with rfl | rfl | rfl <;> decide) (by rcases h with rfl | rfl | rfl <;> rfl) hp (by decide)
theorem E_a3 {q : Xp} {I : Nat → Nat → Int32} {e p : Nat} (h : isE e) (hp : p < 6) : F_X7_at (mkX q I) (some (e + 3)) (nI p) = some (I (e + 3) p, mkX q I) := X_at 6 (by rcases h with rfl | rfl | rfl <;> decide) (by rcases h with rfl | rfl | rfl <;> rfl) hp (by decide)
theorem E_s3 {q : Xp} {I : Nat → Nat → Int32} {e p : Nat} {v : Int32} (h : isE e) (hp : p < 6) : F_X7_store (mkX q I) (some (e + 3)) (nI p) v = some (mkX q (up2 I (e + 3) p v)) := X_st 6 (by rcases h with rfl | rfl | rfl <;> decide) (by rcases h with rfl | rfl | rfl <;> rfl) hp (by decide)
theorem E_a4 {q : Xp} {I : Nat → Nat → Int32} {e p : Nat} (h : isE e) (hp : p < 6) : F_X7_at (mkX q I) (some (e + 4)) (nI p) = some (I (e + 4) p, mkX q I) := X_at 6 (by rcases h with rfl | rfl | rfl <;> decide) (by rcases h with rfl | rfl | rfl <;> rfl) hp (by decide)
theorem E_s4 {q : Xp} {I : Nat → Nat → Int32} {e p : Nat} {v : Int32} (h : isE e) (hp : p < 6) : F_X7_store (mkX q I) (some (e + 4)) (nI p) v = some (mkX q (up2 I (e + 4) p v)) := X_st 6 (by rcases h with rfl | rfl | rfl <;> decide) (by rcases h with rfl | rfl | rfl <;> rfl) hp (by decide)
theorem E_a5 {q : Xp} {I : Nat → Nat → Int32} {e p : Nat} (h : isE e) (hp : p < 10) : F_X7_at (mkX q I) (some (e + 5)) (nI p) = some (I (e + 5) p, mkX q I) := X_at 10 (by rcases h with rfl | rfl | rfl <;> decide) (by rcases h with rfl | rfl | rfl <;> rfl) hp (by decide)
theorem E_s5 {q : Xp} {I : Nat → Nat → Int32} {e p : Nat} {v : Int32} (h : isE e) (hp : p < 10) : F_X7_store (mkX q I) (some (e + 5)) (nI p) v = some (mkX q (up2 I (e + 5) p v)) := X_st 10 (by rcases h with rfl | rfl | rfl <;> decide) (by rcases h with rfl | rfl | rfl <;> rfl) hp (by decide)
theorem E_a6 {q : Xp} {I : Nat → Nat → Int32} {e p : Nat} (h : isE e) (hp : p < 10) : F_X7_at (mkX q I) (some (e + 6)) (nI p) = some (I (e + 6) p, mkX q I) := X_at 10 (by rcases h with rfl | rfl | rfl <;> decide) (by rcases h with rfl | rfl | rfl <;> rfl) hp (by decide)
theorem E_s6 {q : Xp} {I : Nat → Nat → Int32} {e p : Nat} {v : Int32} (h : isE e) (hp : p < 10) : F_X7_store (mkX q I) (some (e + 6)) (nI p) v = some (mkX q (up2 I (e + 6) p v)) := X_st 10 (by rcases h with rfl | rfl | rfl <;> decide) (by rcases h with rfl | rfl | rfl <;> rfl) hp (by decide)
theorem E_a7 {q : Xp} {I : Nat → Nat → Int32} {e p : Nat} (h : isE e) (hp : p < 10) : F_X7_at (mkX q I) (some (e + 7)) (nI p) = some (I (e + 7) p, mkX q I) := X_at 10 (by rcases h with rfl | rfl | rfl <;> decide) (by rcases h with rfl | rfl | rfl <;> rfl) hp (by decide)
theorem E_s7 {q : Xp} {I : Nat → Nat → Int32} {e p : Nat} {v : Int32} (h : isE e) (hp : p < 10) : F_X7_store (mkX q I) (some (e + 7)) (nI p) v = some (mkX q (up2 I (e + 7) p v)) := X_st 10 (by rcases h with rfl | rfl | rfl <;> decide) (by rcases h with rfl | rfl | rfl <;> rfl) hp (by decide)
theorem E_a8 {q : Xp} {I : Nat → Nat → Int32} {e p : Nat} (h : isE e) (hp : p < 6) : F_X7_at (mkX q I) (some (e + 8)) (nI p) = some (I (e + 8) p, mkX q I) := X_at 6 (by rcases h with rfl | rfl | rfl <;> decide) (by rcases h with rfl | rfl | rfl <;> rfl) hp (by decide)
theorem E_s8 {q : Xp} {I : Nat → Nat → Int32} {e p : Nat} {v : Int32} (h : isE e) (hp : p < 6) : F_X7_store (mkX q I) (some (e + 8)) (nI p) v = some (mkX q (up2 I (e + 8) p v)) := X_st 6 (by rcases h with rfl | rfl | rfl <;> decide) (by rcases h with rfl | rfl | rfl <;> rfl) hp (by decide)
theorem E_a9 {q : Xp} {I : Nat → Nat → Int32} {e p : Nat} (h : isE e) (hp : p < 6) : F_X7_at (mkX q I) (some (e + 9)) (nI p) = some (I (e + 9) p, mkX q I) := X_at 6 (by rcases h with rfl | rfl | rfl <;> decide) (by rcases h with rfl | rfl | rfl <;> rfl) hp (by decide)
theorem E_s9 {q : Xp} {I : Nat → Nat → Int32} {e p : Nat} {v : Int32} (h : isE e) (hp : p < 6) : F_X7_store (mkX q I) (some (e + 9)) (nI p) v = some (mkX q (up2 I (e + 9) p v)) := X_st 6 (by rcases h with rfl | rfl | rfl <;> decide) (by rcases h with rfl | rfl | rfl <;> rfl) hp (by decide)
theorem E_a10 {q : Xp} {I : Nat → Nat → Int32} {e p : Nat} (h : isE e) (hp : p < 6) : F_X7_at (mkX q I) (some (e + 10)) (nI p) = some (I (e + 10) p, mkX q I) := X_at 6 (by rcases h with rfl | rfl | rfl <;> decide) (by rcases h with rfl | rfl | rfl <;> rfl) hp (by decide)
theorem E_s10 {q : Xp} {I : Nat → Nat → Int32} {e p : Nat} {v : Int32} (h : isE e) (hp : p < 6) : F_X7_store (mkX q I) (some (e + 10)) (nI p) v = some (mkX q (up2 I (e + 10) p v)) := X_st 6 (by rcases h with rfl | rfl | rfl <;> decide) (by rcases h with rfl | rfl | rfl <;> rfl) hp (by decide)
/-! laws -/
theorem shX_law {q : Xp} {t : Nat} (ht : t < q.1) : shX q (53 + 4 * t) = (1, 0) ∧ shX q (54 + 4 * t) = (7, 3) ∧ shX q (55 + 4 * t) = (7, q.2.1 t) ∧ shX q (56 + 4 * t) = (7, q.2.1 t) := by
  unfold shX
  refine ⟨?_, ?_, ?_, ?_⟩
  · rw [if_neg (by omega), if_pos (by omega), if_pos (by omega)]
  · rw [if_neg (by omega), if_pos (by omega), if_neg (by omega), if_pos (by omega)]
  · rw [if_neg (by omega), if_pos (by omega), if_neg (by omega), if_neg (by omega), show (55 + 4 * t - 53) / 4 = t by omega]
  · rw [if_neg (by omega), if_pos (by omega), if_neg (by omega), if_neg (by omega), show (56 + 4 * t - 53) / 4 = t by omega]
theorem rvX_law {q : Xp} {t : Nat} (ht : t < q.1) (j : Nat) : rvX q (53 + 4 * t) j = [some (55 + 4 * t), some (54 + 4 * t), some (56 + 4 * t)].getD j none := by
  unfold rvX
  rw [if_neg (by omega), if_neg (by omega), if_neg (by omega), if_neg (by omega), if_neg (by omega), if_neg (by omega), if_neg (by omega), if_neg (by omega), if_neg (by omega), if_neg (by omega), if_neg (by omega), if_neg (by omega), if_neg (by omega), if_pos (by omega), if_pos (by omega), show 53 + 4 * t + 2 = 55 + 4 * t by omega, show 53 + 4 * t + 1 = 54 + 4 * t by omega, show 53 + 4 * t + 3 = 56 + 4 * t by omega]
theorem W_ob {q : Xp} {I : Nat → Nat → Int32} {t : Nat} (ht : t < q.1) : ob (mkX q I) 1 (some (53 + 4 * t)) = some (53 + 4 * t) := by
  show (if 53 + 4 * t < 53 + 4 * q.1 ∧ (shX q (53 + 4 * t)).1 = 1 then some (53 + 4 * t) else none) = _
  rw [if_pos ⟨by omega, by rw [(shX_law ht).1]⟩]
theorem W_ob7 {q : Xp} {I : Nat → Nat → Int32} {t i : Nat} (ht : t < q.1) (hi : i < 3) : ob (mkX q I) 7 (some (54 + i + 4 * t)) = some (54 + i + 4 * t) := by
  obtain ⟨-, h1, h2, h3⟩ := shX_law ht
  show (if 54 + i + 4 * t < 53 + 4 * q.1 ∧ (shX q (54 + i + 4 * t)).1 = 7 then some (54 + i + 4 * t) else none) = _
  have h7 : (shX q (54 + i + 4 * t)).1 = 7 := by
    rcases (show i = 0 ∨ i = 1 ∨ i = 2 by omega) with rfl | rfl | rfl
    · rw [show 54 + 0 + 4 * t = 54 + 4 * t by omega, h1]
    · rw [show 54 + 1 + 4 * t = 55 + 4 * t by omega, h2]
    · rw [show 54 + 2 + 4 * t = 56 + 4 * t by omega, h3]
  rw [if_pos ⟨by omega, h7⟩]
theorem W_r {q : Xp} {I : Nat → Nat → Int32} {t j : Nat} (ht : t < q.1) : gR (mkX q I) (some (53 + 4 * t)) 1 j = some ([some (55 + 4 * t), some (54 + 4 * t), some (56 + 4 * t)].getD j none) := by
  unfold gR
  rw [W_ob ht, bind_some']
  exact congrArg some (rvX_law ht j)
theorem W_ends {q : Xp} {I : Nat → Nat → Int32} {t p : Nat} (ht : t < q.1) (hp : p < 3) : F_X7_at (mkX q I) (some (54 + 4 * t)) (nI p) = some (I (54 + 4 * t) p, mkX q I) :=
  at_in (W_ob7 (i := 0) ht (by decide)) (by show (shX q (54 + 4 * t)).2 = 3; rw [(shX_law ht).2.1]) hp (by decide)
theorem W_code {q : Xp} {I : Nat → Nat → Int32} {t p : Nat} (ht : t < q.1) (hp : p < q.2.1 t) (hc : q.2.1 t ≤ 160) : aG (mkX q I) (some (55 + 4 * t)) (nI p) = some (I (55 + 4 * t) p) := by
  unfold aG
  rw [W_ob7 (i := 1) ht (by decide), bind_some']
  show (if inb (nI p) (shX q (55 + 4 * t)).2 = true then some (I (55 + 4 * t) (nI p).toNatClampNeg) else none) = _
  rw [(shX_law ht).2.2.1, if_pos (inb_nI hp (by omega)), nI_clamp (by omega)]
theorem W_sat {q : Xp} {I : Nat → Nat → Int32} {t p : Nat} (ht : t < q.1) (hp : p < q.2.1 t) (hc : q.2.1 t ≤ 160) : F_X7_at (mkX q I) (some (56 + 4 * t)) (nI p) = some (I (56 + 4 * t) p, mkX q I) :=
  at_in (W_ob7 (i := 2) ht (by decide)) (by show (shX q (56 + 4 * t)).2 = q.2.1 t; rw [(shX_law ht).2.2.2]) hp (by omega)
theorem W_sst {q : Xp} {I : Nat → Nat → Int32} {t p : Nat} {v : Int32} (ht : t < q.1) (hp : p < q.2.1 t) (hc : q.2.1 t ≤ 160) : F_X7_store (mkX q I) (some (56 + 4 * t)) (nI p) v = some (mkX q (up2 I (56 + 4 * t) p v)) :=
  store_in (W_ob7 (i := 2) ht (by decide)) (by show (shX q (56 + 4 * t)).2 = q.2.1 t; rw [(shX_law ht).2.2.2]) hp (by omega)
theorem W_len {q : Xp} {I : Nat → Nat → Int32} {t : Nat} (ht : t < q.1) : aL (mkX q I) (some (55 + 4 * t)) 7 = some (nI (q.2.1 t)) := by
  unfold aL
  rw [W_ob7 (i := 1) ht (by decide), bind_some']
  show some (Int32.ofNat (shX q (55 + 4 * t)).2) = _
  rw [(shX_law ht).2.2.1]
  rfl
/-- how the class writes the reference's signs -/
def tr (x : Int32) : Int32 := if 100000 ≤ x then x - 100000 else if x < 11 then -(16 + x) else if x = 11 then -13 else if x = 12 then -14 else if x = 13 then -15 else if x = 14 then -60 else if x = 15 then -61 else if x = 16 then -43 else if x = 17 then -45 else if x = 18 then -42 else -3
def LawX (q : Xp) (I : Nat → Nat → Int32) (e : Nat) (v : Ev) : Prop := ∃ t, t < q.1 ∧ lawR q e = some (53 + 4 * t) ∧ q.2.1 t = vBnd v 3 ∧ (∀ i, i < 3 → I (54 + 4 * t) i = nI (vBnd v (i + 1))) ∧ ∀ i, i < vBnd v 3 → I (55 + 4 * t) i = tr (vCode v i)
def RX (q : Xp) (I : Nat → Nat → Int32) (e : Nat) (v : Ev) : Prop :=
  (I e 0 = nI (vP v) ∧ vP v ≤ 6) ∧ (I e 5 = nI (vW v) ∧ vW v ≤ 10) ∧ I e 9 = vDay v ∧ (∀ p, p < vP v → I (e + 1) p = vKind v p ∧ I (e + 2) p = vMore v p ∧ I (e + 3) p = vPride v p ∧ I (e + 4) p = vName v p) ∧ (∀ k, k < vW v → I (e + 5) k = vDo v k ∧ I (e + 6) k = vWt v k ∧ I (e + 7) k = vSw v k) ∧ LawX q I e v ∧ okLaw v
def smx (E : Nat → Prop) (I I' : Nat → Nat → Int32) : Prop := ∀ a, ¬ E a → I' a = I a
theorem smx_rf {E : Nat → Prop} {I : Nat → Nat → Int32} : smx E I I := fun _ _ => rfl
theorem smx_tr {E : Nat → Prop} {I I' I'' : Nat → Nat → Int32} (h : smx E I I') (h2 : smx E I' I'') : smx E I I'' := fun a ha => (h2 a ha).trans (h a ha)
theorem smx_up {E : Nat → Prop} {I : Nat → Nat → Int32} {a j : Nat} {v : Int32} (ha : E a) : smx E I (up2 I a j v) := by
  intro b hb
  funext x
  exact up2_o (fun q => hb (q ▸ ha))
theorem smx_wk {E E' : Nat → Prop} {I I' : Nat → Nat → Int32} (h : smx E I I') (hs : ∀ a, E a → E' a) : smx E' I I' := fun a ha => h a (fun q => ha (hs a q))
/-- the stacks of laws -/
def ES (a : Nat) : Prop := 56 ≤ a ∧ a % 4 = 0
def E8 (e a : Nat) : Prop := ES a ∨ a = e + 8
def EL (e a : Nat) : Prop := ES a ∨ a = e + 8 ∨ a = e + 9 ∨ a = e + 10
theorem RX_smx {q : Xp} {I I' : Nat → Nat → Int32} {e : Nat} {v : Ev} {E : Nat → Prop} (h : RX q I e v) (hs : smx E I I') (hE : ∀ a, E a → ES a ∨ (a < 53 ∧ ∀ i, i < 8 → a ≠ e + i)) (he : isE e) : RX q I' e v := by
  have f : ∀ i, i < 8 → I' (e + i) = I (e + i) := by
    intro i hi
    refine hs _ (fun q => ?_)
    rcases hE _ q with h | h
    · have := E_lt he
      unfold ES at h
      rcases he with rfl | rfl | rfl <;> omega
    · exact h.2 i hi rfl
  obtain ⟨h1, h2, h3, h4, h5, ⟨t, t1, t2, t3, t4, t5⟩, h7⟩ := h
  have f0 := f 0 (by decide)
  rw [Nat.add_zero] at f0
  have g : ∀ a, 53 ≤ a → ¬ a % 4 = 0 → I' a = I a := by
    intro a ha h4
    refine hs _ (fun q => ?_)
    rcases hE _ q with h | h
    · exact h4 h.2
    · omega
  unfold RX LawX
  rw [f0, f 1 (by decide), f 2 (by decide), f 3 (by decide), f 4 (by decide), f 5 (by decide), f 6 (by decide), f 7 (by decide)]
  refine ⟨h1, h2, h3, h4, h5, ⟨t, t1, t2, t3, ?_, ?_⟩, h7⟩
  · rw [g (54 + 4 * t) (by omega) (by omega)]
    exact t4
  · rw [g (55 + 4 * t) (by omega) (by omega)]
    exact t5
theorem RX_8 {q : Xp} {I I' : Nat → Nat → Int32} {e : Nat} {v : Ev} (h : RX q I e v) (hs : smx (E8 e) I I') (he : isE e) : RX q I' e v :=
  RX_smx h hs (fun a ha => by
    rcases ha with h | h
    · exact Or.inl h
    · exact Or.inr ⟨by rcases he with rfl | rfl | rfl <;> omega, fun i hi => by omega⟩) he
theorem RX_L {q : Xp} {I I' : Nat → Nat → Int32} {e : Nat} {v : Ev} (h : RX q I e v) (hs : smx (EL e) I I') (he : isE e) : RX q I' e v :=
  RX_smx h hs (fun a ha => by
    rcases ha with h | h | h | h
    · exact Or.inl h
    · exact Or.inr ⟨by rcases he with rfl | rfl | rfl <;> omega, fun i hi => by omega⟩
    · exact Or.inr ⟨by rcases he with rfl | rfl | rfl <;> omega, fun i hi => by omega⟩
    · exact Or.inr ⟨by rcases he with rfl | rfl | rfl <;> omega, fun i hi => by omega⟩) he
