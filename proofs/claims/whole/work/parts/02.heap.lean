/-! THE PURE HEAP: cells by index; a cell's shape (kind, length), its whole numbers, its references (indices) -/
abbrev Hp : Type := Nat × ((Nat → Nat × Nat) × ((Nat → Nat → Int32) × (Nat → Nat → Option Nat)))
abbrev PV : Type := (Int32 ⊕ Int64) ⊕ (Option Nat ⊕ Nat)
abbrev vI (x : Int32) : PV := .inl (.inl x)
abbrev vJ (x : Int64) : PV := .inl (.inr x)
abbrev vR (r : Option Nat) : PV := .inr (.inl r)
abbrev vK (i : Nat) : PV := .inr (.inr i)
abbrev Gt : Type := Nat × (Nat × (Nat × ((Nat → Nat) × (Nat → Nat))))
def zsk (g : Gt) (i : Nat) : Nat := if i < 100 then g.2.2.2.1 i else g.2.2.2.2 (i - 100)
def cv (g : Gt) (ad : Nat → Nat) : PV → Value
  | .inl (.inl x) => .int x
  | .inl (.inr x) => .long x
  | .inr (.inl r) => va_rf (r.map ad)
  | .inr (.inr i) => .ref (zsk g i)
def pcat : PV → Nat
  | .inl (.inl _) => 1
  | .inl (.inr _) => 2
  | .inr (.inl _) => 1
  | .inr (.inr _) => 1
theorem rf_cat (r : Option Nat) : (va_rf r).category = 1 := by cases r <;> rfl
theorem cv_cat (g : Gt) (ad : Nat → Nat) (v : PV) : (cv g ad v).category = pcat v := by
  rcases v with (x | x) | (r | i)
  · rfl
  · rfl
  · exact rf_cat _
  · rfl
/-- the kinds of a class's fields: 0 a whole number, 1 a reference -/
def zk : Nat → List Nat
  | 0 => [0, 1, 1, 1, 1, 0, 1, 1, 1, 0, 0, 1, 1, 1, 1]
  | 1 => [1, 1, 1]
  | 2 => [1, 0, 0, 1, 0, 1]
  | 3 => [0, 0, 1]
  | 4 => [1, 0, 1, 1, 1]
  | 5 => [1, 1, 1, 0, 1, 1, 1, 0, 1, 1]
  | 6 => [0, 1, 1, 1, 1, 1, 1, 0, 0, 1, 0, 1, 1, 0, 0, 0, 1, 1, 1, 1, 1, 1, 0, 0, 0, 0, 1, 1, 0, 0, 0, 1, 1, 1, 1, 1, 0]
  | _ => []
abbrev zcl : List vw_C := [(RX0, TX0, 15), (RX2, TX2, 3), (RX3, TX3, 6), (RX4, TX4, 3), (RX6, TX6, 5), (RX7, TX7, 10), (RX8, TX8, 37)]
def tyg (g : Gt) : List (ClassId × FieldType) := [(g.1, .int), (g.2.1, .object "DrumOfGuilt$Law"), (g.2.2.1, .object "DrumOfGuilt$Sheet")]
def zfl (f h : Nat → Value) : List Nat → Nat → List Value
  | [], _ => []
  | b :: bs, j => (if b = 0 then f j else h j) :: zfl f h bs (j + 1)
theorem zfl_get (f h : Nat → Value) : ∀ (l : List Nat) (i j b : Nat), l[j]? = some b → (zfl f h l i)[j]? = some (if b = 0 then f (i + j) else h (i + j))
  | [], _, _, _, q => by simp at q
  | a :: l, i, 0, b, q => by
    have e : a = b := by simpa using q
    subst e
    simp [zfl]
  | a :: l, i, j + 1, b, q => by
    have e : l[j]? = some b := by simpa using q
    have r := zfl_get f h l (i + 1) j b e
    simp only [zfl, List.getElem?_cons_succ]
    rw [r, show i + 1 + j = i + (j + 1) by omega]
theorem zfl_len (f h : Nat → Value) : ∀ (l : List Nat) (i : Nat), (zfl f h l i).length = l.length
  | [], _ => rfl
  | _ :: l, i => by simp [zfl, zfl_len f h l]
theorem zfl_congr {f h f' h' : Nat → Value} : ∀ (l : List Nat) (i : Nat), (∀ j, i ≤ j → f' j = f j ∧ h' j = h j) → zfl f' h' l i = zfl f h l i
  | [], _, _ => rfl
  | b :: l, i, q => by
    simp only [zfl]
    rw [(q i (Nat.le_refl i)).1, (q i (Nat.le_refl i)).2, zfl_congr l (i + 1) (fun j hj => q j (by omega))]
theorem zfl_set {f h f' h' : Nat → Value} {v : Value} : ∀ (l : List Nat) (i j b : Nat), l[j]? = some b → (∀ k, k ≠ i + j → f' k = f k ∧ h' k = h k) → (if b = 0 then f' (i + j) = v ∧ h' (i + j) = h (i + j) else h' (i + j) = v ∧ f' (i + j) = f (i + j)) → (zfl f h l i).set j v = zfl f' h' l i
  | [], _, _, _, q, _, _ => by simp at q
  | a :: l, i, 0, b, q, o, e => by
    have e0 : a = b := by simpa using q
    subst e0
    simp only [zfl, List.set_cons_zero]
    rw [zfl_congr (f := f) (h := h) (f' := f') (h' := h') l (i + 1) (fun j hj => o j (by omega))]
    congr 1
    by_cases z : a = 0
    · rw [if_pos z] at e ⊢
      exact e.1.symm
    · rw [if_neg z] at e ⊢
      exact e.1.symm
  | a :: l, i, j + 1, b, q, o, e => by
    have e0 : l[j]? = some b := by simpa using q
    simp only [zfl, List.set_cons_succ]
    have o1 := o i (by omega)
    rw [o1.1, o1.2, zfl_set l (i + 1) j b e0 (fun k hk => o k (by omega)) (by rw [show i + 1 + j = i + (j + 1) by omega]; exact e)]
def zE (g : Gt) (ad : Nat → Nat) (S : Hp) (k : Nat) : va_E :=
  if (S.2.1 k).1 = 7 then .inl (g.1, (S.2.1 k).2, .inl (S.2.2.1 k))
  else if (S.2.1 k).1 = 8 then .inl (g.2.1, (S.2.1 k).2, .inr (.inr (.inr (.inr (fun j => (S.2.2.2 k j).map ad)))))
  else if (S.2.1 k).1 = 9 then .inl (g.2.2.1, (S.2.1 k).2, .inr (.inr (.inr (.inr (fun j => (S.2.2.2 k j).map ad)))))
  else .inr ((S.2.1 k).1, zfl (fun j => .int (S.2.2.1 k j)) (fun j => va_rf ((S.2.2.2 k j).map ad)) (zk (S.2.1 k).1) 0)
theorem zE_obj {g : Gt} {ad : Nat → Nat} {S : Hp} {k t : Nat} (h : (S.2.1 k).1 = t) (ht : t < 7) : zE g ad S k = .inr (t, zfl (fun j => .int (S.2.2.1 k j)) (fun j => va_rf ((S.2.2.2 k j).map ad)) (zk t) 0) := by
  unfold zE
  rw [h, if_neg (by omega), if_neg (by omega), if_neg (by omega)]
theorem zE_int {g : Gt} {ad : Nat → Nat} {S : Hp} {k : Nat} (h : (S.2.1 k).1 = 7) : zE g ad S k = .inl (g.1, (S.2.1 k).2, .inl (S.2.2.1 k)) := by
  unfold zE
  rw [if_pos h]
theorem zE_r8 {g : Gt} {ad : Nat → Nat} {S : Hp} {k : Nat} (h : (S.2.1 k).1 = 8) : zE g ad S k = .inl (g.2.1, (S.2.1 k).2, .inr (.inr (.inr (.inr (fun j => (S.2.2.2 k j).map ad))))) := by
  unfold zE
  rw [if_neg (by omega), if_pos h]
theorem zE_r9 {g : Gt} {ad : Nat → Nat} {S : Hp} {k : Nat} (h : (S.2.1 k).1 = 9) : zE g ad S k = .inl (g.2.2.1, (S.2.1 k).2, .inr (.inr (.inr (.inr (fun j => (S.2.2.2 k j).map ad))))) := by
  unfold zE
  rw [if_neg (by omega), if_neg (by omega), if_pos h]
theorem zE_congr {g : Gt} {ad ad' : Nat → Nat} {S S' : Hp} {k : Nat} (h1 : S'.2.1 k = S.2.1 k) (h2 : ∀ j, S'.2.2.1 k j = S.2.2.1 k j) (h3 : ∀ j, (S'.2.2.2 k j).map ad' = (S.2.2.2 k j).map ad) : zE g ad' S' k = zE g ad S k := by
  have e2 : S'.2.2.1 k = S.2.2.1 k := funext h2
  have e3 : (fun j => (S'.2.2.2 k j).map ad') = (fun j => (S.2.2.2 k j).map ad) := funext h3
  have e4 : (fun j => va_rf ((S'.2.2.2 k j).map ad')) = (fun j => va_rf ((S.2.2.2 k j).map ad)) := funext fun j => by rw [h3 j]
  unfold zE
  rw [h1, e2, e3, e4]
def Wl (g : Gt) (ad : Nat → Nat) (S : Hp) : va_W := (List.range S.1).map (fun k => (ad k, zE g ad S k))
theorem Wl_get {g : Gt} {ad : Nat → Nat} {S : Hp} {k : Nat} (h : k < S.1) : (Wl g ad S)[k]? = some (ad k, zE g ad S k) := by
  simp [Wl, h]
theorem Wl_of {g : Gt} {ad : Nat → Nat} {S : Hp} {k : Nat} {q : Nat × va_E} (h : (Wl g ad S)[k]? = some q) : k < S.1 ∧ q = (ad k, zE g ad S k) := by
  by_cases hk : k < S.1
  · rw [Wl_get hk] at h
    exact ⟨hk, (Option.some.inj h).symm⟩
  · simp [Wl, hk] at h
theorem Wl_len {g : Gt} {ad : Nat → Nat} {S : Hp} : (Wl g ad S).length = S.1 := by simp [Wl]
theorem Wl_set {g : Gt} {ad : Nat → Nat} {S S' : Hp} {k : Nat} {e : va_E} (h : k < S.1) (hn : S'.1 = S.1) (ho : ∀ j, j ≠ k → zE g ad S' j = zE g ad S j) (he : zE g ad S' k = e) : (Wl g ad S).set k (ad k, e) = Wl g ad S' := by
  apply List.ext_getElem?
  intro i
  by_cases hi : i < S.1
  · rw [Wl_get (S := S') (by rw [hn]; exact hi)]
    by_cases hik : i = k
    · subst hik
      rw [List.getElem?_set_self (by rw [Wl_len]; exact hi), he]
    · rw [List.getElem?_set_ne (Ne.symm hik), Wl_get hi, ho i hik]
  · rw [List.getElem?_eq_none (by rw [List.length_set, Wl_len]; omega), List.getElem?_eq_none (by rw [Wl_len, hn]; omega)]
/-- every reference is to a cell -/
def zW (S : Hp) : Prop := ∀ k j r, S.2.2.2 k j = some r → r < S.1
theorem Wl_app {g : Gt} {ad : Nat → Nat} {S S' : Hp} {q : Nat} {e : va_E} (hw : zW S) (hn : S'.1 = S.1 + 1) (ho : ∀ k, k < S.1 → S'.2.1 k = S.2.1 k ∧ (∀ j, S'.2.2.1 k j = S.2.2.1 k j) ∧ ∀ j, S'.2.2.2 k j = S.2.2.2 k j) (he : zE g (va_up ad S.1 q) S' S.1 = e) : Wl g ad S ++ [(q, e)] = Wl g (va_up ad S.1 q) S' := by
  unfold Wl
  rw [hn, List.range_succ, List.map_append]
  congr 1
  · apply List.map_congr_left
    intro k hk
    have hk : k < S.1 := List.mem_range.mp hk
    have h1 : va_up ad S.1 q k = ad k := by simp [va_up, Nat.ne_of_lt hk]
    rw [h1, zE_congr (ad := ad) (S := S) (ho k hk).1 (ho k hk).2.1 (fun j => by
      rw [(ho k hk).2.2 j]
      cases hr : S.2.2.2 k j with
      | none => rfl
      | some r =>
        have := hw k j r hr
        simp [va_up, Nat.ne_of_lt this])]
  · simp [he, va_up]
/-! the operations -/
def okR (S : Hp) : Option Nat → Prop
  | none => True
  | some r => r < S.1
def okRb (S : Hp) : Option Nat → Bool
  | none => true
  | some r => decide (r < S.1)
theorem okR_of {S : Hp} {r : Option Nat} (h : okRb S r = true) : okR S r := by
  cases r with
  | none => trivial
  | some r => exact (of_decide_eq_true (p := r < S.1) h)
def up2 {α : Type} (f : Nat → Nat → α) (o j : Nat) (v : α) : Nat → Nat → α := fun a b => if a = o ∧ b = j then v else f a b
def uI (S : Hp) (o j : Nat) (v : Int32) : Hp := (S.1, S.2.1, up2 S.2.2.1 o j v, S.2.2.2)
def uR (S : Hp) (o j : Nat) (v : Option Nat) : Hp := (S.1, S.2.1, S.2.2.1, up2 S.2.2.2 o j v)
def uA (S : Hp) (o : Nat) (f : Nat → Int32) : Hp := (S.1, S.2.1, (fun a b => if a = o then f b else S.2.2.1 a b), S.2.2.2)
/-- the object that r is, of kind t -/
def ob (S : Hp) (t : Nat) : Option Nat → Option Nat
  | none => none
  | some o => if o < S.1 ∧ (S.2.1 o).1 = t then some o else none
def gI (S : Hp) (r : Option Nat) (t j : Nat) : Option Int32 := (ob S t r).bind fun o => some (S.2.2.1 o j)
def gR (S : Hp) (r : Option Nat) (t j : Nat) : Option (Option Nat) := (ob S t r).bind fun o => some (S.2.2.2 o j)
def pI (S : Hp) (r : Option Nat) (t j : Nat) (v : Int32) : Option Hp := (ob S t r).bind fun o => some (uI S o j v)
def pR (S : Hp) (r : Option Nat) (t j : Nat) (v : Option Nat) : Option Hp := (ob S t r).bind fun o => if okRb S v = true then some (uR S o j v) else none
def inb (i : Int32) (n : Nat) : Bool := !(decide (i < 0) || decide (n ≤ i.toNatClampNeg))
theorem inb_in {i : Int32} {n : Nat} (h : inb i n = true) : vp_in i n := by
  simp only [inb, Bool.not_eq_true', Bool.or_eq_false_iff, decide_eq_false_iff_not] at h
  exact fun q => q.elim h.1 h.2
def aG (S : Hp) (r : Option Nat) (i : Int32) : Option Int32 := (ob S 7 r).bind fun o => if inb i (S.2.1 o).2 = true then some (S.2.2.1 o i.toNatClampNeg) else none
def aP (S : Hp) (r : Option Nat) (i v : Int32) : Option Hp := (ob S 7 r).bind fun o => if inb i (S.2.1 o).2 = true then some (uI S o i.toNatClampNeg v) else none
def aL (S : Hp) (r : Option Nat) (t : Nat) : Option Int32 := (ob S t r).bind fun o => some (Int32.ofNat (S.2.1 o).2)
def rG (S : Hp) (r : Option Nat) (t : Nat) (i : Int32) : Option (Option Nat) := (ob S t r).bind fun o => if inb i (S.2.1 o).2 = true then some (S.2.2.2 o i.toNatClampNeg) else none
/-- into a row of references of kind t an object of kind u -/
def rP (S : Hp) (r : Option Nat) (t u : Nat) (i : Int32) (v : Option Nat) : Option Hp := (ob S t r).bind fun o => (ob S u v).bind fun x => if inb i (S.2.1 o).2 = true then some (uR S o i.toNatClampNeg (some x)) else none
def mk (S : Hp) (t len : Nat) : Hp := (S.1 + 1, (fun k => if k = S.1 then (t, len) else S.2.1 k), (fun a b => if a = S.1 then 0 else S.2.2.1 a b), (fun a b => if a = S.1 then none else S.2.2.2 a b))
/-- a new row of whole numbers of n places, n at most M -/
def nA (S : Hp) (M : Nat) (n : Int32) : Option Hp := if n < 0 ∨ M < n.toNatClampNeg then none else some (mk S 7 n.toNatClampNeg)
def nQ (S : Hp) (t M : Nat) (n : Int32) : Option Hp := if n < 0 ∨ M < n.toNatClampNeg then none else some (mk S t n.toNatClampNeg)
def cpyO (S : Hp) (r : Option Nat) (sp : Int32) (q : Option Nat) (dp n : Int32) : Option Hp := (ob S 7 r).bind fun a => (ob S 7 q).bind fun b =>
  if sp < 0 ∨ dp < 0 ∨ n < 0 ∨ (S.2.1 a).2 < sp.toNatClampNeg + n.toNatClampNeg ∨ (S.2.1 b).2 < dp.toNatClampNeg + n.toNatClampNeg then none
  else some (uA S b (va_cpy (S.2.2.1 a) (S.2.2.1 b) sp.toNatClampNeg dp.toNatClampNeg n.toNatClampNeg))
def chk (S : Hp) (rs : List (Option Nat)) : Option Unit := if rs.all (okRb S) = true then some () else none
theorem ob_some {S : Hp} {t : Nat} {r : Option Nat} {o : Nat} (h : ob S t r = some o) : r = some o ∧ o < S.1 ∧ (S.2.1 o).1 = t := by
  cases r with
  | none => cases h
  | some a =>
    simp only [ob] at h
    split at h
    · cases h
      exact ⟨rfl, by assumption⟩
    · cases h
theorem bd {α β : Type} {x : Option α} {f : α → Option β} {r : β} (h : x.bind f = some r) : ∃ v, x = some v ∧ f v = some r := by
  cases x with
  | none => cases h
  | some v => exact ⟨v, rfl, h⟩
theorem it {c : Prop} {d : Decidable c} {α : Type} {a b r : α} (hc : c) (h : @ite α c d a b = r) : a = r := by rwa [if_pos hc] at h
theorem ie {c : Prop} {d : Decidable c} {α : Type} {a b r : α} (hc : ¬ c) (h : @ite α c d a b = r) : b = r := by rwa [if_neg hc] at h
theorem gI_some {S : Hp} {r : Option Nat} {t j : Nat} {v : Int32} (h : gI S r t j = some v) : ∃ o, r = some o ∧ o < S.1 ∧ (S.2.1 o).1 = t ∧ S.2.2.1 o j = v := by
  obtain ⟨o, h1, h2⟩ := bd h
  obtain ⟨a, b, c⟩ := ob_some h1
  exact ⟨o, a, b, c, Option.some.inj h2⟩
theorem gR_some {S : Hp} {r : Option Nat} {t j : Nat} {v : Option Nat} (h : gR S r t j = some v) : ∃ o, r = some o ∧ o < S.1 ∧ (S.2.1 o).1 = t ∧ S.2.2.2 o j = v := by
  obtain ⟨o, h1, h2⟩ := bd h
  obtain ⟨a, b, c⟩ := ob_some h1
  exact ⟨o, a, b, c, Option.some.inj h2⟩
theorem pI_some {S S' : Hp} {r : Option Nat} {t j : Nat} {v : Int32} (h : pI S r t j v = some S') : ∃ o, r = some o ∧ o < S.1 ∧ (S.2.1 o).1 = t ∧ uI S o j v = S' := by
  obtain ⟨o, h1, h2⟩ := bd h
  obtain ⟨a, b, c⟩ := ob_some h1
  exact ⟨o, a, b, c, Option.some.inj h2⟩
theorem pR_some {S S' : Hp} {r : Option Nat} {t j : Nat} {v : Option Nat} (h : pR S r t j v = some S') : ∃ o, r = some o ∧ o < S.1 ∧ (S.2.1 o).1 = t ∧ okR S v ∧ uR S o j v = S' := by
  obtain ⟨o, h1, h2⟩ := bd h
  obtain ⟨a, b, c⟩ := ob_some h1
  by_cases q : okRb S v = true
  · exact ⟨o, a, b, c, okR_of q, Option.some.inj (it q h2)⟩
  · cases ie q h2
theorem aG_some {S : Hp} {r : Option Nat} {i v : Int32} (h : aG S r i = some v) : ∃ o, r = some o ∧ o < S.1 ∧ (S.2.1 o).1 = 7 ∧ vp_in i (S.2.1 o).2 ∧ S.2.2.1 o i.toNatClampNeg = v := by
  obtain ⟨o, h1, h2⟩ := bd h
  obtain ⟨a, b, c⟩ := ob_some h1
  by_cases q : inb i (S.2.1 o).2 = true
  · exact ⟨o, a, b, c, inb_in q, Option.some.inj (it q h2)⟩
  · cases ie q h2
theorem aP_some {S S' : Hp} {r : Option Nat} {i v : Int32} (h : aP S r i v = some S') : ∃ o, r = some o ∧ o < S.1 ∧ (S.2.1 o).1 = 7 ∧ vp_in i (S.2.1 o).2 ∧ uI S o i.toNatClampNeg v = S' := by
  obtain ⟨o, h1, h2⟩ := bd h
  obtain ⟨a, b, c⟩ := ob_some h1
  by_cases q : inb i (S.2.1 o).2 = true
  · exact ⟨o, a, b, c, inb_in q, Option.some.inj (it q h2)⟩
  · cases ie q h2
theorem aL_some {S : Hp} {r : Option Nat} {t : Nat} {v : Int32} (h : aL S r t = some v) : ∃ o, r = some o ∧ o < S.1 ∧ (S.2.1 o).1 = t ∧ Int32.ofNat (S.2.1 o).2 = v := by
  obtain ⟨o, h1, h2⟩ := bd h
  obtain ⟨a, b, c⟩ := ob_some h1
  exact ⟨o, a, b, c, Option.some.inj h2⟩
theorem rG_some {S : Hp} {r : Option Nat} {t : Nat} {i : Int32} {v : Option Nat} (h : rG S r t i = some v) : ∃ o, r = some o ∧ o < S.1 ∧ (S.2.1 o).1 = t ∧ vp_in i (S.2.1 o).2 ∧ S.2.2.2 o i.toNatClampNeg = v := by
  obtain ⟨o, h1, h2⟩ := bd h
  obtain ⟨a, b, c⟩ := ob_some h1
  by_cases q : inb i (S.2.1 o).2 = true
  · exact ⟨o, a, b, c, inb_in q, Option.some.inj (it q h2)⟩
  · cases ie q h2
theorem rP_some {S S' : Hp} {r v : Option Nat} {t u : Nat} {i : Int32} (h : rP S r t u i v = some S') : ∃ o x, r = some o ∧ o < S.1 ∧ (S.2.1 o).1 = t ∧ v = some x ∧ x < S.1 ∧ (S.2.1 x).1 = u ∧ vp_in i (S.2.1 o).2 ∧ uR S o i.toNatClampNeg (some x) = S' := by
  obtain ⟨o, h1, h2⟩ := bd h
  obtain ⟨a, b, c⟩ := ob_some h1
  obtain ⟨x, h3, h4⟩ := bd h2
  obtain ⟨a', b', c'⟩ := ob_some h3
  by_cases q : inb i (S.2.1 o).2 = true
  · exact ⟨o, x, a, b, c, a', b', c', inb_in q, Option.some.inj (it q h4)⟩
  · cases ie q h4
theorem cpyO_some {S S' : Hp} {r q : Option Nat} {sp dp n : Int32} (h : cpyO S r sp q dp n = some S') : ∃ a b, r = some a ∧ a < S.1 ∧ (S.2.1 a).1 = 7 ∧ q = some b ∧ b < S.1 ∧ (S.2.1 b).1 = 7 ∧ (¬ sp < 0 ∧ ¬ dp < 0 ∧ ¬ n < 0 ∧ sp.toNatClampNeg + n.toNatClampNeg ≤ (S.2.1 a).2 ∧ dp.toNatClampNeg + n.toNatClampNeg ≤ (S.2.1 b).2) ∧ uA S b (va_cpy (S.2.2.1 a) (S.2.2.1 b) sp.toNatClampNeg dp.toNatClampNeg n.toNatClampNeg) = S' := by
  obtain ⟨a, h1, h2⟩ := bd h
  obtain ⟨a1, b1, c1⟩ := ob_some h1
  obtain ⟨b, h3, h4⟩ := bd h2
  obtain ⟨a2, b2, c2⟩ := ob_some h3
  by_cases z : sp < 0 ∨ dp < 0 ∨ n < 0 ∨ (S.2.1 a).2 < sp.toNatClampNeg + n.toNatClampNeg ∨ (S.2.1 b).2 < dp.toNatClampNeg + n.toNatClampNeg
  · cases it z h4
  · refine ⟨a, b, a1, b1, c1, a2, b2, c2, ⟨fun q => z (Or.inl q), fun q => z (Or.inr (Or.inl q)), fun q => z (Or.inr (Or.inr (Or.inl q))), Nat.not_lt.mp fun q => z (Or.inr (Or.inr (Or.inr (Or.inl q)))), Nat.not_lt.mp fun q => z (Or.inr (Or.inr (Or.inr (Or.inr q))))⟩, Option.some.inj (ie z h4)⟩
theorem nA_some {S S' : Hp} {M : Nat} {n : Int32} (h : nA S M n = some S') : ¬ n < 0 ∧ n.toNatClampNeg ≤ M ∧ mk S 7 n.toNatClampNeg = S' := by
  by_cases z : n < 0 ∨ M < n.toNatClampNeg
  · cases it z h
  · exact ⟨fun q => z (Or.inl q), Nat.not_lt.mp fun q => z (Or.inr q), Option.some.inj (ie z h)⟩
theorem nQ_some {S S' : Hp} {t M : Nat} {n : Int32} (h : nQ S t M n = some S') : ¬ n < 0 ∧ n.toNatClampNeg ≤ M ∧ mk S t n.toNatClampNeg = S' := by
  by_cases z : n < 0 ∨ M < n.toNatClampNeg
  · cases it z h
  · exact ⟨fun q => z (Or.inl q), Nat.not_lt.mp fun q => z (Or.inr q), Option.some.inj (ie z h)⟩
theorem chk_some {S : Hp} {rs : List (Option Nat)} {u : Unit} (h : chk S rs = some u) : ∀ r ∈ rs, okR S r := by
  by_cases q : rs.all (okRb S) = true
  · intro r hr
    exact okR_of (List.all_eq_true.mp q r hr)
  · cases ie q h
/-! what never changes: nest links, texts, the static row, as the tables and the start have them -/
def zNest : List (String × Nat × MethodName × String) := [(RX7, 9, yX0_init, RX7), (RX7, 28, yX6_init, RX7), (RX7, 62, yX4_init, RX7), (RX6, 28, yX7_store, RX7), (RX6, 32, yX7_at, RX7), (RX3, 88, yX7_at, RX7), (RX3, 62, yX7_store, RX7), (RX2, 15, yX7_bounded, RX7), (RX2, 25, yX7_at, RX7), (RX2, 29, yX7_store, RX7), (RX0, 65, yX7_store, RX7), (RX0, 69, yX7_fits, RX7), (RX0, 61, yX7_at, RX7), (RX0, 99, yX7_bounded, RX7), (RX0, 83, yX7_hasBit, RX7), (RX4, 22, yX7_at, RX7), (RX4, 34, yX7_store, RX7), (RX1, 15, yX7_at, RX7)]
def zStr : List (String × Nat × String × Nat) := [(RX7, 63, "strokes 1 ; doubts 10 ; pays weight ;", 0), (RX5, 9, "strokes", 1), (RX5, 11, "doubts", 2), (RX5, 13, "pays", 3), (RX5, 15, "or", 4), (RX5, 17, "and", 5), (RX5, 19, "not", 6), (RX5, 21, "weight", 7), (RX5, 23, "shared", 8), (RX5, 25, "seen", 9), (RX5, 27, "day", 10), (RX5, 29, "pride", 11), (RX5, 31, "more", 12), (RX5, 33, "", 13)]
def zlen : List Nat := [37, 7, 6, 4, 2, 3, 3, 6, 6, 4, 3, 5, 4, 0]
def zbyt : List (List Int32) := [[115, 116, 114, 111, 107, 101, 115, 32, 49, 32, 59, 32, 100, 111, 117, 98, 116, 115, 32, 49, 48, 32, 59, 32, 112, 97, 121, 115, 32, 119, 101, 105, 103, 104, 116, 32, 59], [115, 116, 114, 111, 107, 101, 115], [100, 111, 117, 98, 116, 115], [112, 97, 121, 115], [111, 114], [97, 110, 100], [110, 111, 116], [119, 101, 105, 103, 104, 116], [115, 104, 97, 114, 101, 100], [115, 101, 101, 110], [100, 97, 121], [112, 114, 105, 100, 101], [109, 111, 114, 101], []]
def zkab : List Int32 := [-1, 0, 0, 1, 2, 0]
def Gx (g : Gt) (A : Nat → Prop) (U : State) (H : Heap) : Prop :=
  (∀ q ∈ zNest, va_Nw (.methodLinkNest q.1 q.2.1 q.2.2.1 q.2.2.2) U) ∧ (va_AO "DrumOfGuilt$Law" U ∧ va_AO "DrumOfGuilt$Sheet" U) ∧ (∀ q ∈ zStr, vk_R q.1 q.2.1 q.2.2.1 (g.2.2.2.1 q.2.2.2) U) ∧ vk_S 14 zlen zbyt g.2.2.2.1 g.2.2.2.2 A U H ∧ va_T .int (g.2.2.2.1 14) 6 (fun j => .int (zkab.getD j 0)) A U H ∧ va_Z "DrumOfGuilt$Kind" "KIND_ABOVE" "[I" (.ref (g.2.2.2.1 14)) A U H ∧ va_Z "java/lang/String" "COMPACT_STRINGS" "Z" (.int 1) A U H ∧ (va_Z "jdk/internal/util/Preconditions" "SIOOBE_FORMATTER" "Ljava/util/function/BiFunction;" .null A U H ∨ va_Z "jdk/internal/util/Preconditions" "SIOOBE_FORMATTER" "Ljava/util/function/BiFunction;" (.ref (g.2.2.2.1 15)) A U H)
theorem Gx.calling {g : Gt} {A : Nat → Prop} {U : State} {gf : JFrame} {mk : MethodId} {a : Array Value} (h : Gx g A U U.heap) : Gx g A (U.calling gf mk a) (U.calling gf mk a).heap := by
  obtain ⟨h1, h2, h3, h4, h5, h6, h7, h8⟩ := h
  have al : U.vm.Alike (U.calling gf mk a).vm := Vm.Alike.refl U.vm
  exact ⟨fun q hq => va_Nw.same (u := U) rfl rfl (h1 q hq), ⟨va_AO.moved al h2.1, va_AO.moved al h2.2⟩, fun q hq => vk_R.same (u := U) rfl (h3 q hq), vk_S.moved al h4, va_T.moved al h5, va_Z.moved al h6, va_Z.moved al h7, h8.imp (va_Z.moved al) (va_Z.moved al)⟩
theorem Gx.call {g : Gt} {A B : Nat → Prop} {s U : State} {H : Heap} {locs : List Loc} (h : Gx g A s s.heap) (hS : va_S A s.heap H locs) (hU : U.heap = H) (hW : s.WarmedH U.vm) (hAB : ∀ q, B q → A q) : Gx g B U U.heap := by
  obtain ⟨h1, h2, h3, h4, h5, h6, h7, h8⟩ := h
  subst hU
  have al : s.vm.Alike U.vm := hW.alike
  exact ⟨fun q hq => va_Nw.warmM hW (h1 q hq), ⟨va_AO.moved al h2.1, va_AO.moved al h2.2⟩, fun q hq => vk_R.warm hW (h3 q hq), vk_S.moved al ((h4.kept hS.2.1).narrow hAB), va_T.moved al ((h5.kept hS.2.1).narrow hAB), va_Z.moved al ((h6.kept hS.2.1).narrow hAB), va_Z.moved al ((h7.kept hS.2.1).narrow hAB), h8.imp (fun h => va_Z.moved al ((h.kept hS.2.1).narrow hAB)) (fun h => va_Z.moved al ((h.kept hS.2.1).narrow hAB))⟩
