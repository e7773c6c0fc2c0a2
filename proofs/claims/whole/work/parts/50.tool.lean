/-! THE PURE SIDE: numbers, folds -/
theorem lit (n : Nat) : (OfNat.ofNat n : Int32) = nI n := rfl
theorem nI_mul (a b : Nat) : nI a * nI b = nI (a * b) := pk_mul a b
theorem nI_inj {a b : Nat} (ha : a < 2 ^ 31) (hb : b < 2 ^ 31) (h : nI a = nI b) : a = b := (nI_eq ha hb).mp h
theorem inb_iff {x : Int32} {n : Nat} : inb x n = true ↔ 0 ≤ x.toInt ∧ x.toInt < n := by
  simp only [inb, Bool.not_eq_true', Bool.or_eq_false_iff, decide_eq_false_iff_not, Int32.lt_iff_toInt_lt]
  have e0 : (0 : Int32).toInt = 0 := rfl
  have ec : x.toNatClampNeg = x.toInt.toNat := rfl
  rw [e0, ec]
  omega
theorem inb_nI {p n : Nat} (hp : p < n) (hn : n < 2 ^ 31) : inb (nI p) n = true := by
  rw [inb_iff, nI_toInt (by omega)]
  omega
theorem inb_no {p n : Nat} (hp : n ≤ p) (hn : p < 2 ^ 31) : inb (nI p) n = false := by
  cases h : inb (nI p) n with
  | false => rfl
  | true =>
    rw [inb_iff, nI_toInt (by omega)] at h
    omega
theorem inb_of {x : Int32} {n : Nat} (h : inb x n = true) (hn : n < 2 ^ 31) : ∃ p, p < n ∧ x = nI p := vp_in_of (inb_in h) hn
def bI (b : Bool) : Int32 := if b then 1 else 0
theorem bI_t : bI true = 1 := rfl
theorem bI_f : bI false = 0 := rfl
theorem bI_eq0 {b : Bool} : (bI b = 0) = (b = false) := by cases b <;> decide
theorem bI_eq1 {b : Bool} : (bI b = 1) = (b = true) := by cases b <;> decide
theorem zb_bI {b : Bool} {S : Hp} : zb (bI b) S = some (bI b, S) := by cases b <;> rfl
def fold {α : Type} (f : Nat → α → α) : Nat → α → α
  | 0, a => a
  | n + 1, a => f n (fold f n a)
theorem fold_congr {α : Type} {f g : Nat → α → α} : ∀ (n : Nat) (a : α), (∀ k, k < n → ∀ b, f k b = g k b) → fold f n a = fold g n a
  | 0, _, _ => rfl
  | n + 1, a, h => by
    show f n (fold f n a) = g n (fold g n a)
    rw [fold_congr n a (fun k hk b => h k (by omega) b), h n (by omega)]
/-- the bit of x at p -/
def bt (x p : Int32) : Bool := decide (((x >>> (p &&& 31)) &&& (1 : Int32)) = 1)
theorem b2_some {α β : Type} {a : α} {S : Hp} {f : α → Hp → Option β} : b2 (some (a, S)) f = f a S := rfl
theorem bind_some' {α β : Type} {a : α} {f : α → Option β} : (some a).bind f = f a := rfl
theorem ite_t {α : Type} {c : Prop} {d : Decidable c} {a b : α} (h : c) : @ite α c d a b = a := if_pos h
theorem toInt_bd (x : Int32) : -2147483648 ≤ x.toInt ∧ x.toInt < 2147483648 := ⟨by have := Int32.le_toInt x; simpa using this, by have := Int32.toInt_lt x; simpa using this⟩
theorem le_I {x y : Int32} : x ≤ y ↔ x.toInt ≤ y.toInt := Int32.le_iff_toInt_le
theorem lt_I {x y : Int32} : x < y ↔ x.toInt < y.toInt := Int32.lt_iff_toInt_lt
theorem subI {x y : Int32} (h1 : -2147483648 ≤ x.toInt - y.toInt) (h2 : x.toInt - y.toInt < 2147483648) : (x - y).toInt = x.toInt - y.toInt := by
  rw [Int32.toInt_sub, Int.bmod_eq_of_le] <;> omega
theorem addI {x y : Int32} (h1 : -2147483648 ≤ x.toInt + y.toInt) (h2 : x.toInt + y.toInt < 2147483648) : (x + y).toInt = x.toInt + y.toInt := by
  rw [Int32.toInt_add, Int.bmod_eq_of_le] <;> omega
theorem mulI {x y : Int32} (h1 : -2147483648 ≤ x.toInt * y.toInt) (h2 : x.toInt * y.toInt < 2147483648) : (x * y).toInt = x.toInt * y.toInt := by
  rw [Int32.toInt_mul, Int.bmod_eq_of_le] <;> omega
theorem eq_I {x y : Int32} : x = y ↔ x.toInt = y.toInt := Int32.toInt_inj.symm
theorem up2_s {α : Type} {f : Nat → Nat → α} {o j : Nat} {v : α} : up2 f o j v o j = v := by simp [up2]
theorem up2_o {α : Type} {f : Nat → Nat → α} {o j a b : Nat} {v : α} (h : a ≠ o) : up2 f o j v a b = f a b := by simp [up2, h]
theorem up2_j {α : Type} {f : Nat → Nat → α} {o j a b : Nat} {v : α} (h : b ≠ j) : up2 f o j v a b = f a b := by simp [up2, h]
/-! the reference's heap -/
def lM : List Nat := [0, 6, 6, 12, 10, 10, 10, 160, 1200, 24, 42, 4, 4, 4, 160, 37, 96, 200, 200, 6, 6, 10, 31]
def shM (k : Nat) : Nat × Nat := if k = 0 then (6, 0) else if k < 23 then (7, lM.getD k 0) else (0, 0)
def rsM : List (Option Nat) := [none, some 1, some 2, some 3, some 4, some 5, some 6, none, none, some 7, none, some 8, some 9, none, none, none, some 10, some 11, some 12, some 13, some 14, some 15, none, none, none, none, some 16, some 17, none, none, none, some 18, some 19, some 20, some 21, some 22, none]
def rvM (k j : Nat) : Option Nat := if k = 0 then rsM.getD j none else none
def mkM (I : Nat → Nat → Int32) : Hp := (23, shM, I, rvM)
theorem M_ob {I : Nat → Nat → Int32} : ob (mkM I) 6 (some 0) = some 0 := rfl
theorem M_gI {I : Nat → Nat → Int32} {j : Nat} : gI (mkM I) (some 0) 6 j = some (I 0 j) := rfl
theorem M_pI {I : Nat → Nat → Int32} {j : Nat} {v : Int32} : pI (mkM I) (some 0) 6 j v = some (mkM (up2 I 0 j v)) := rfl
theorem M_aG {I : Nat → Nat → Int32} {a p : Nat} (n : Nat) (h : ob (mkM I) 7 (some a) = some a) (hn : (shM a).2 = n) (hp : p < n) (h2 : n < 2 ^ 31) : aG (mkM I) (some a) (nI p) = some (I a p) := by
  unfold aG
  rw [h]
  show (if inb (nI p) (shM a).2 = true then some (I a (nI p).toNatClampNeg) else none) = _
  rw [hn, if_pos (inb_nI hp h2), nI_clamp (by omega)]
theorem M_aP {I : Nat → Nat → Int32} {a p : Nat} {v : Int32} (n : Nat) (h : ob (mkM I) 7 (some a) = some a) (hn : (shM a).2 = n) (hp : p < n) (h2 : n < 2 ^ 31) : aP (mkM I) (some a) (nI p) v = some (mkM (up2 I a p v)) := by
  unfold aP
  rw [h]
  show (if inb (nI p) (shM a).2 = true then some (uI (mkM I) a (nI p).toNatClampNeg v) else none) = _
  rw [hn, if_pos (inb_nI hp h2), nI_clamp (by omega)]
  rfl
theorem M_r1 {I : Nat → Nat → Int32} : gR (mkM I) (some 0) 6 1 = some (some 1) := rfl
theorem M_g1 {I : Nat → Nat → Int32} {p : Nat} (hp : p < 6) : aG (mkM I) (some 1) (nI p) = some (I 1 p) := M_aG 6 rfl rfl hp (by decide)
theorem M_p1 {I : Nat → Nat → Int32} {p : Nat} {v : Int32} (hp : p < 6) : aP (mkM I) (some 1) (nI p) v = some (mkM (up2 I 1 p v)) := M_aP 6 rfl rfl hp (by decide)
theorem M_r2 {I : Nat → Nat → Int32} : gR (mkM I) (some 0) 6 2 = some (some 2) := rfl
theorem M_g2 {I : Nat → Nat → Int32} {p : Nat} (hp : p < 6) : aG (mkM I) (some 2) (nI p) = some (I 2 p) := M_aG 6 rfl rfl hp (by decide)
theorem M_p2 {I : Nat → Nat → Int32} {p : Nat} {v : Int32} (hp : p < 6) : aP (mkM I) (some 2) (nI p) v = some (mkM (up2 I 2 p v)) := M_aP 6 rfl rfl hp (by decide)
theorem M_r3 {I : Nat → Nat → Int32} : gR (mkM I) (some 0) 6 3 = some (some 3) := rfl
theorem M_g3 {I : Nat → Nat → Int32} {p : Nat} (hp : p < 12) : aG (mkM I) (some 3) (nI p) = some (I 3 p) := M_aG 12 rfl rfl hp (by decide)
theorem M_p3 {I : Nat → Nat → Int32} {p : Nat} {v : Int32} (hp : p < 12) : aP (mkM I) (some 3) (nI p) v = some (mkM (up2 I 3 p v)) := M_aP 12 rfl rfl hp (by decide)
theorem M_r4 {I : Nat → Nat → Int32} : gR (mkM I) (some 0) 6 4 = some (some 4) := rfl
theorem M_g4 {I : Nat → Nat → Int32} {p : Nat} (hp : p < 10) : aG (mkM I) (some 4) (nI p) = some (I 4 p) := M_aG 10 rfl rfl hp (by decide)
theorem M_p4 {I : Nat → Nat → Int32} {p : Nat} {v : Int32} (hp : p < 10) : aP (mkM I) (some 4) (nI p) v = some (mkM (up2 I 4 p v)) := M_aP 10 rfl rfl hp (by decide)
theorem M_r5 {I : Nat → Nat → Int32} : gR (mkM I) (some 0) 6 5 = some (some 5) := rfl
theorem M_g5 {I : Nat → Nat → Int32} {p : Nat} (hp : p < 10) : aG (mkM I) (some 5) (nI p) = some (I 5 p) := M_aG 10 rfl rfl hp (by decide)
theorem M_p5 {I : Nat → Nat → Int32} {p : Nat} {v : Int32} (hp : p < 10) : aP (mkM I) (some 5) (nI p) v = some (mkM (up2 I 5 p v)) := M_aP 10 rfl rfl hp (by decide)
theorem M_r6 {I : Nat → Nat → Int32} : gR (mkM I) (some 0) 6 6 = some (some 6) := rfl
theorem M_g6 {I : Nat → Nat → Int32} {p : Nat} (hp : p < 10) : aG (mkM I) (some 6) (nI p) = some (I 6 p) := M_aG 10 rfl rfl hp (by decide)
theorem M_p6 {I : Nat → Nat → Int32} {p : Nat} {v : Int32} (hp : p < 10) : aP (mkM I) (some 6) (nI p) v = some (mkM (up2 I 6 p v)) := M_aP 10 rfl rfl hp (by decide)
theorem M_r9 {I : Nat → Nat → Int32} : gR (mkM I) (some 0) 6 9 = some (some 7) := rfl
theorem M_g7 {I : Nat → Nat → Int32} {p : Nat} (hp : p < 160) : aG (mkM I) (some 7) (nI p) = some (I 7 p) := M_aG 160 rfl rfl hp (by decide)
theorem M_p7 {I : Nat → Nat → Int32} {p : Nat} {v : Int32} (hp : p < 160) : aP (mkM I) (some 7) (nI p) v = some (mkM (up2 I 7 p v)) := M_aP 160 rfl rfl hp (by decide)
theorem M_r11 {I : Nat → Nat → Int32} : gR (mkM I) (some 0) 6 11 = some (some 8) := rfl
theorem M_g8 {I : Nat → Nat → Int32} {p : Nat} (hp : p < 1200) : aG (mkM I) (some 8) (nI p) = some (I 8 p) := M_aG 1200 rfl rfl hp (by decide)
theorem M_p8 {I : Nat → Nat → Int32} {p : Nat} {v : Int32} (hp : p < 1200) : aP (mkM I) (some 8) (nI p) v = some (mkM (up2 I 8 p v)) := M_aP 1200 rfl rfl hp (by decide)
theorem M_r12 {I : Nat → Nat → Int32} : gR (mkM I) (some 0) 6 12 = some (some 9) := rfl
theorem M_g9 {I : Nat → Nat → Int32} {p : Nat} (hp : p < 24) : aG (mkM I) (some 9) (nI p) = some (I 9 p) := M_aG 24 rfl rfl hp (by decide)
theorem M_p9 {I : Nat → Nat → Int32} {p : Nat} {v : Int32} (hp : p < 24) : aP (mkM I) (some 9) (nI p) v = some (mkM (up2 I 9 p v)) := M_aP 24 rfl rfl hp (by decide)
theorem M_r16 {I : Nat → Nat → Int32} : gR (mkM I) (some 0) 6 16 = some (some 10) := rfl
theorem M_g10 {I : Nat → Nat → Int32} {p : Nat} (hp : p < 42) : aG (mkM I) (some 10) (nI p) = some (I 10 p) := M_aG 42 rfl rfl hp (by decide)
theorem M_p10 {I : Nat → Nat → Int32} {p : Nat} {v : Int32} (hp : p < 42) : aP (mkM I) (some 10) (nI p) v = some (mkM (up2 I 10 p v)) := M_aP 42 rfl rfl hp (by decide)
theorem M_r17 {I : Nat → Nat → Int32} : gR (mkM I) (some 0) 6 17 = some (some 11) := rfl
theorem M_g11 {I : Nat → Nat → Int32} {p : Nat} (hp : p < 4) : aG (mkM I) (some 11) (nI p) = some (I 11 p) := M_aG 4 rfl rfl hp (by decide)
theorem M_p11 {I : Nat → Nat → Int32} {p : Nat} {v : Int32} (hp : p < 4) : aP (mkM I) (some 11) (nI p) v = some (mkM (up2 I 11 p v)) := M_aP 4 rfl rfl hp (by decide)
theorem M_r18 {I : Nat → Nat → Int32} : gR (mkM I) (some 0) 6 18 = some (some 12) := rfl
theorem M_g12 {I : Nat → Nat → Int32} {p : Nat} (hp : p < 4) : aG (mkM I) (some 12) (nI p) = some (I 12 p) := M_aG 4 rfl rfl hp (by decide)
theorem M_p12 {I : Nat → Nat → Int32} {p : Nat} {v : Int32} (hp : p < 4) : aP (mkM I) (some 12) (nI p) v = some (mkM (up2 I 12 p v)) := M_aP 4 rfl rfl hp (by decide)
theorem M_r19 {I : Nat → Nat → Int32} : gR (mkM I) (some 0) 6 19 = some (some 13) := rfl
theorem M_g13 {I : Nat → Nat → Int32} {p : Nat} (hp : p < 4) : aG (mkM I) (some 13) (nI p) = some (I 13 p) := M_aG 4 rfl rfl hp (by decide)
theorem M_p13 {I : Nat → Nat → Int32} {p : Nat} {v : Int32} (hp : p < 4) : aP (mkM I) (some 13) (nI p) v = some (mkM (up2 I 13 p v)) := M_aP 4 rfl rfl hp (by decide)
theorem M_r20 {I : Nat → Nat → Int32} : gR (mkM I) (some 0) 6 20 = some (some 14) := rfl
theorem M_g14 {I : Nat → Nat → Int32} {p : Nat} (hp : p < 160) : aG (mkM I) (some 14) (nI p) = some (I 14 p) := M_aG 160 rfl rfl hp (by decide)
theorem M_p14 {I : Nat → Nat → Int32} {p : Nat} {v : Int32} (hp : p < 160) : aP (mkM I) (some 14) (nI p) v = some (mkM (up2 I 14 p v)) := M_aP 160 rfl rfl hp (by decide)
theorem M_r21 {I : Nat → Nat → Int32} : gR (mkM I) (some 0) 6 21 = some (some 15) := rfl
theorem M_g15 {I : Nat → Nat → Int32} {p : Nat} (hp : p < 37) : aG (mkM I) (some 15) (nI p) = some (I 15 p) := M_aG 37 rfl rfl hp (by decide)
theorem M_p15 {I : Nat → Nat → Int32} {p : Nat} {v : Int32} (hp : p < 37) : aP (mkM I) (some 15) (nI p) v = some (mkM (up2 I 15 p v)) := M_aP 37 rfl rfl hp (by decide)
theorem M_r26 {I : Nat → Nat → Int32} : gR (mkM I) (some 0) 6 26 = some (some 16) := rfl
theorem M_g16 {I : Nat → Nat → Int32} {p : Nat} (hp : p < 96) : aG (mkM I) (some 16) (nI p) = some (I 16 p) := M_aG 96 rfl rfl hp (by decide)
theorem M_p16 {I : Nat → Nat → Int32} {p : Nat} {v : Int32} (hp : p < 96) : aP (mkM I) (some 16) (nI p) v = some (mkM (up2 I 16 p v)) := M_aP 96 rfl rfl hp (by decide)
theorem M_r27 {I : Nat → Nat → Int32} : gR (mkM I) (some 0) 6 27 = some (some 17) := rfl
theorem M_g17 {I : Nat → Nat → Int32} {p : Nat} (hp : p < 200) : aG (mkM I) (some 17) (nI p) = some (I 17 p) := M_aG 200 rfl rfl hp (by decide)
theorem M_p17 {I : Nat → Nat → Int32} {p : Nat} {v : Int32} (hp : p < 200) : aP (mkM I) (some 17) (nI p) v = some (mkM (up2 I 17 p v)) := M_aP 200 rfl rfl hp (by decide)
theorem M_r31 {I : Nat → Nat → Int32} : gR (mkM I) (some 0) 6 31 = some (some 18) := rfl
theorem M_g18 {I : Nat → Nat → Int32} {p : Nat} (hp : p < 200) : aG (mkM I) (some 18) (nI p) = some (I 18 p) := M_aG 200 rfl rfl hp (by decide)
theorem M_p18 {I : Nat → Nat → Int32} {p : Nat} {v : Int32} (hp : p < 200) : aP (mkM I) (some 18) (nI p) v = some (mkM (up2 I 18 p v)) := M_aP 200 rfl rfl hp (by decide)
theorem M_r32 {I : Nat → Nat → Int32} : gR (mkM I) (some 0) 6 32 = some (some 19) := rfl
theorem M_g19 {I : Nat → Nat → Int32} {p : Nat} (hp : p < 6) : aG (mkM I) (some 19) (nI p) = some (I 19 p) := M_aG 6 rfl rfl hp (by decide)
theorem M_p19 {I : Nat → Nat → Int32} {p : Nat} {v : Int32} (hp : p < 6) : aP (mkM I) (some 19) (nI p) v = some (mkM (up2 I 19 p v)) := M_aP 6 rfl rfl hp (by decide)
theorem M_r33 {I : Nat → Nat → Int32} : gR (mkM I) (some 0) 6 33 = some (some 20) := rfl
theorem M_g20 {I : Nat → Nat → Int32} {p : Nat} (hp : p < 6) : aG (mkM I) (some 20) (nI p) = some (I 20 p) := M_aG 6 rfl rfl hp (by decide)
theorem M_p20 {I : Nat → Nat → Int32} {p : Nat} {v : Int32} (hp : p < 6) : aP (mkM I) (some 20) (nI p) v = some (mkM (up2 I 20 p v)) := M_aP 6 rfl rfl hp (by decide)
theorem M_r34 {I : Nat → Nat → Int32} : gR (mkM I) (some 0) 6 34 = some (some 21) := rfl
theorem M_g21 {I : Nat → Nat → Int32} {p : Nat} (hp : p < 10) : aG (mkM I) (some 21) (nI p) = some (I 21 p) := M_aG 10 rfl rfl hp (by decide)
theorem M_p21 {I : Nat → Nat → Int32} {p : Nat} {v : Int32} (hp : p < 10) : aP (mkM I) (some 21) (nI p) v = some (mkM (up2 I 21 p v)) := M_aP 10 rfl rfl hp (by decide)
theorem M_r35 {I : Nat → Nat → Int32} : gR (mkM I) (some 0) 6 35 = some (some 22) := rfl
theorem M_g22 {I : Nat → Nat → Int32} {p : Nat} (hp : p < 31) : aG (mkM I) (some 22) (nI p) = some (I 22 p) := M_aG 31 rfl rfl hp (by decide)
theorem M_p22 {I : Nat → Nat → Int32} {p : Nat} {v : Int32} (hp : p < 31) : aP (mkM I) (some 22) (nI p) v = some (mkM (up2 I 22 p v)) := M_aP 31 rfl rfl hp (by decide)
