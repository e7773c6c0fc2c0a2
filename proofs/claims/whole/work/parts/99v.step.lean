/-! THE CONSTRUCTORS, by steps -/
theorem g_chn {α : Type} {n0 : Nat} {S : Hp} {rs : List (Option Nat)} {f : Unit → Option α} {X : Option α} (h : n0 ≤ S.1 ∧ rs.all (okRb S) = true) (k : f () = X) : (chn n0 S rs).bind f = X := by
  unfold chn
  rw [if_pos h]
  exact k
theorem g_nA {α : Type} {S S' : Hp} {M : Nat} {n : Int32} {f : Hp → Option α} {X : Option α} (e : S' = mk S 7 n.toNatClampNeg) (h : ¬ (n < 0 ∨ M < n.toNatClampNeg)) (k : f S' = X) : (nA S M n).bind f = X := by
  unfold nA
  rw [if_neg h, ← e]
  exact k
theorem g_nQ {α : Type} {S S' : Hp} {t M : Nat} {n : Int32} {f : Hp → Option α} {X : Option α} (e : S' = mk S t n.toNatClampNeg) (h : ¬ (n < 0 ∨ M < n.toNatClampNeg)) (k : f S' = X) : (nQ S t M n).bind f = X := by
  unfold nQ
  rw [if_neg h, ← e]
  exact k
theorem g_pR {α : Type} {S S' : Hp} {o t j : Nat} {v : Option Nat} {f : Hp → Option α} {X : Option α} (e : S' = uR S o j v) (h : o < S.1 ∧ (S.2.1 o).1 = t ∧ okRb S v = true) (k : f S' = X) : (pR S (some o) t j v).bind f = X := by
  rw [pR_ok (ob_lt h.1 h.2.1) h.2.2, ← e]
  exact k
theorem g_pI {α : Type} {S S' : Hp} {o t j : Nat} {v : Int32} {f : Hp → Option α} {X : Option α} (e : S' = uI S o j v) (h : o < S.1 ∧ (S.2.1 o).1 = t) (k : f S' = X) : (pI S (some o) t j v).bind f = X := by
  unfold pI
  rw [ob_lt h.1 h.2, bind_some', ← e]
  exact k
theorem g_aP {α : Type} {S S' : Hp} {o : Nat} {i v : Int32} {f : Hp → Option α} {X : Option α} (e : S' = uI S o i.toNatClampNeg v) (h : o < S.1 ∧ (S.2.1 o).1 = 7 ∧ inb i (S.2.1 o).2 = true) (k : f S' = X) : (aP S (some o) i v).bind f = X := by
  unfold aP
  rw [ob_lt h.1 h.2.1, bind_some', if_pos h.2.2, ← e]
  exact k
theorem g_ob {α : Type} {S : Hp} {t o : Nat} {f : Nat → Option α} {X : Option α} (h : o < S.1 ∧ (S.2.1 o).1 = t) (k : f o = X) : (ob S t (some o)).bind f = X := by
  rw [ob_lt h.1 h.2]
  exact k
theorem g_gR {α : Type} {S : Hp} {o t j : Nat} {v : Option Nat} {f : Option Nat → Option α} {X : Option α} (h : o < S.1 ∧ (S.2.1 o).1 = t) (e : S.2.2.2 o j = v) (k : f v = X) : (gR S (some o) t j).bind f = X := by
  unfold gR
  rw [ob_lt h.1 h.2, bind_some', e]
  exact k
theorem g_aL {α : Type} {S : Hp} {o t : Nat} {len : Int32} {f : Int32 → Option α} {X : Option α} (h : o < S.1 ∧ (S.2.1 o).1 = t) (e : Int32.ofNat (S.2.1 o).2 = len) (k : f len = X) : (aL S (some o) t).bind f = X := by
  unfold aL
  rw [ob_lt h.1 h.2, bind_some', e]
  exact k
theorem g_rP {α : Type} {S S' : Hp} {o x t u : Nat} {i : Int32} {f : Hp → Option α} {X : Option α} (e : S' = uR S o i.toNatClampNeg (some x)) (h : o < S.1 ∧ (S.2.1 o).1 = t ∧ x < S.1 ∧ (S.2.1 x).1 = u ∧ inb i (S.2.1 o).2 = true) (k : f S' = X) : (rP S (some o) t u i (some x)).bind f = X := by
  unfold rP
  rw [ob_lt h.1 h.2.1, bind_some', ob_lt h.2.2.1 h.2.2.2.1, bind_some', if_pos h.2.2.2.2, ← e]
  exact k
theorem g_call {α : Type} {E : Option Hp} {S' : Hp} {f : Hp → Option α} {X : Option α} (e : E = some S') (k : f S' = X) : E.bind f = X := by
  rw [e]
  exact k
theorem g_ifn {α : Type} {c : Prop} [Decidable c] {A B X : α} (h : ¬ c) (k : B = X) : (if c then A else B) = X := by
  rw [if_neg h]
  exact k
theorem g_ifp {α : Type} {c : Prop} [Decidable c] {A B X : α} (h : c) (k : A = X) : (if c then A else B) = X := by
  rw [if_pos h]
  exact k
def SB (n m : Nat) (S : Hp) : Prop := (∀ k, n ≤ k → S.2.1 k = (0, 0)) ∧ ∀ k j, (n ≤ k ∨ m ≤ j) → S.2.2.2 k j = none
theorem SB_0 {n m t : Nat} (h : 0 < n) : SB n m (hp1 t) := by
  refine ⟨fun k hk => ?_, fun k j _ => ?_⟩
  · show (if k = 0 then (t, 0) else (0, 0)) = _
    rw [if_neg (by omega)]
  · show (if k = 0 then none else none) = _
    split <;> rfl
theorem SB_mk {n m t len : Nat} {S : Hp} (g : SB n m S) (h : S.1 < n) : SB n m (mk S t len) := by
  refine ⟨fun k hk => ?_, fun k j hk => ?_⟩
  · show (if k = S.1 then (t, len) else S.2.1 k) = _
    rw [if_neg (by omega)]
    exact g.1 k hk
  · show (if k = S.1 then none else S.2.2.2 k j) = _
    split
    · rfl
    · exact g.2 k j hk
theorem SB_uI {n m o j : Nat} {v : Int32} {S : Hp} (g : SB n m S) : SB n m (uI S o j v) := g
theorem SB_uR {n m o j : Nat} {v : Option Nat} {S : Hp} (g : SB n m S) (h : o < n ∧ j < m) : SB n m (uR S o j v) := by
  refine ⟨g.1, fun k j' hk => ?_⟩
  show (if k = o ∧ j' = j then v else S.2.2.2 k j') = _
  rw [if_neg (by omega)]
  exact g.2 k j' hk
