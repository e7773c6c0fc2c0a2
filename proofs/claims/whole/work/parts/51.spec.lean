/-! EVENINGS, as both have them -/
abbrev Ev : Type := Nat × (Nat × (Int32 × ((Nat → Int32) × ((Nat → Int32) × ((Nat → Int32) × ((Nat → Int32) × ((Nat → Int32) × ((Nat → Int32) × ((Nat → Int32) × ((Nat → Int32) × (Nat → Nat)))))))))))
abbrev vP (e : Ev) : Nat := e.1
abbrev vW (e : Ev) : Nat := e.2.1
abbrev vDay (e : Ev) : Int32 := e.2.2.1
abbrev vKind (e : Ev) : Nat → Int32 := e.2.2.2.1
abbrev vMore (e : Ev) : Nat → Int32 := e.2.2.2.2.1
abbrev vPride (e : Ev) : Nat → Int32 := e.2.2.2.2.2.1
abbrev vName (e : Ev) : Nat → Int32 := e.2.2.2.2.2.2.1
abbrev vDo (e : Ev) : Nat → Int32 := e.2.2.2.2.2.2.2.1
abbrev vWt (e : Ev) : Nat → Int32 := e.2.2.2.2.2.2.2.2.1
abbrev vSw (e : Ev) : Nat → Int32 := e.2.2.2.2.2.2.2.2.2.1
abbrev vCode (e : Ev) : Nat → Int32 := e.2.2.2.2.2.2.2.2.2.2.1
abbrev vBnd (e : Ev) : Nat → Nat := e.2.2.2.2.2.2.2.2.2.2.2
/-- how many bits -/
def popc (x : Int32) : Int32 := fold (fun k n => n + ((x >>> (nI k &&& 31)) &&& (1 : Int32))) 10 0
def facts (e : Ev) (p k : Nat) (i : Nat) : Int32 := [vWt e k, popc (vDo e k), popc (vSw e k), vDay e, vPride e p, vMore e p].getD i 0
def two (x a b : Int32) : Int32 :=
  if x = 11 then (if a = 0 then (if b = 0 then 0 else 1) else 1)
  else if x = 12 then (if a = 0 then 0 else (if b = 0 then 0 else 1))
  else if x = 14 then (if b ≤ a then 0 else 1)
  else if x = 15 then (if a = b then 1 else 0)
  else if x = 16 then a + b
  else if x = 17 then a - b
  else a * b
/-- what a sign may be: a number, a name, one of the signs -/
def vld (x : Int32) : Prop := (∃ n : Nat, n < 10000 ∧ x = nI (100000 + n)) ∨ (∃ n : Nat, n < 6 ∧ x = nI n) ∨ x = 11 ∨ x = 12 ∨ x = 13 ∨ x = 14 ∨ x = 15 ∨ x = 16 ∨ x = 17 ∨ x = 18 ∨ x = 19
/-- one sign on a stack -/
def rst (f : Nat → Int32) (x : Int32) (st : List Int32) : List Int32 :=
  if 100000 ≤ x then (x - 100000) :: st
  else if x < 11 then f x.toNatClampNeg :: st
  else if x = 13 then (match st with
    | a :: r => (if a = 0 then 1 else 0) :: r
    | [] => [])
  else if x = 19 then (match st with
    | a :: r => (-a) :: r
    | [] => [])
  else (match st with
    | b :: a :: r => two x a b :: r
    | r => r)
/-- how high the stack is behind a sign -/
def hst (x : Int32) (h : Nat) : Nat := if 100000 ≤ x then h + 1 else if x < 11 then h + 1 else if x = 13 then h else if x = 19 then h else h - 1
def nst (x : Int32) (h : Nat) : Prop := if 100000 ≤ x then True else if x < 11 then True else if x = 13 then 1 ≤ h else if x = 19 then 1 ≤ h else 2 ≤ h
def rr (f : Nat → Int32) (code : Nat → Int32) : Nat → Nat → List Int32 → List Int32
  | 0, _, st => st
  | n + 1, i, st => rr f code n (i + 1) (rst f (code i) st)
/-- from i on n signs may be worked off, with h on the stack; one is left -/
def wfs (code : Nat → Int32) : Nat → Nat → Nat → Prop
  | 0, _, h => h = 1
  | n + 1, i, h => vld (code i) ∧ nst (code i) h ∧ wfs code n (i + 1) (hst (code i) h)
def raw (e : Ev) (part : Nat) (f : Nat → Int32) : Int32 := (rr f (vCode e) (vBnd e (part + 1) - vBnd e part) (vBnd e part) []).headD 0
def okLaw (e : Ev) : Prop := vBnd e 0 = 0 ∧ vBnd e 0 ≤ vBnd e 1 ∧ vBnd e 1 ≤ vBnd e 2 ∧ vBnd e 2 ≤ vBnd e 3 ∧ vBnd e 3 ≤ 160 ∧ ∀ part, part < 3 → wfs (vCode e) (vBnd e (part + 1) - vBnd e part) (vBnd e part) 0
def clamp (v lo hi : Int32) : Int32 := if lo ≤ v then (if v ≤ hi then v else hi) else lo
def sSays (e : Ev) (part p k : Nat) : Int32 := clamp (raw e part (facts e p k)) 0 (if part = 0 then 20 else 99)
def sStrokes (e : Ev) (p k : Nat) : Int32 :=
  if vKind e p = 5 then (if vWt e k ≤ vMore e p then 0 else 1)
  else if vKind e p = 1 then sSays e 0 p k + vMore e p
  else if vKind e p = 2 then sSays e 0 p k / 2
  else if vKind e p = 3 then 2 * (sSays e 0 p k + vMore e p)
  else if vKind e p = 4 then (if popc (vDo e k) ≤ 1 then sSays e 0 p k / 2 else 0)
  else sSays e 0 p k
def sDoubts (e : Ev) (o k : Nat) (off : Int32) : Int32 :=
  if vKind e o = 2 then (if off < 3 then 0 else sSays e 1 o k)
  else if vKind e o = 4 then (if off < 3 then 0 else sSays e 1 o k)
  else if vKind e o = 3 then sSays e 1 o k / 2
  else if vKind e o = 5 then sSays e 1 o k + off
  else sSays e 1 o k
def sPays (e : Ev) (o k : Nat) : Int32 :=
  if vKind e o = 1 then 1
  else if vKind e o = 3 then 1
  else if vKind e o = 4 then 3 * sSays e 2 o k + vMore e o
  else sSays e 2 o k
def dd (e : Ev) (p k : Nat) : Bool := bt (vDo e k) (nI p)
def ss (e : Ev) (p k : Nat) : Bool := bt (vSw e k) (nI p)
def sBeats (e : Ev) (p : Nat) : Int32 := fold (fun k a => a + (if dd e p k then sStrokes e p k else 0)) (vW e) 0
def sSaw (e : Ev) (o p : Nat) : Int32 := fold (fun k n => n + (if dd e p k && ss e o k then 1 else 0)) (vW e) 0
def sLast (e : Ev) (o p : Nat) : Nat := fold (fun k l => if dd e p k && ss e o k then k else l) (vW e) 0
def sCaught (e : Ev) (p : Nat) (beats : Int32) : Int32 := fold (fun o s => s ||| (if o ≠ p ∧ beats < sSaw e o p then (1 : Int32) <<< (nI o &&& 31) else 0)) (vP e) 0
def sLoss (e : Ev) (p : Nat) (beats : Int32) : Int32 := fold (fun o s => s + (if o ≠ p ∧ 0 < sSaw e o p - beats then sDoubts e o (sLast e o p) (sSaw e o p - beats) else 0)) (vP e) 0
def sThought (e : Ev) (p : Nat) (beats : Int32) : Int32 := clamp (vName e p - beats - sLoss e p beats) 0 999
def sAll (e : Ev) : Int32 := fold (fun p a => a + sBeats e p) (vP e) 0
def sThoughtAll (e : Ev) : Int32 := fold (fun p a => a + sThought e p (sBeats e p)) (vP e) 0
/-! the reference has an evening -/
def LawM (J : Nat → Nat → Int32) (e : Ev) : Prop := ∃ r, r < 6 ∧ J 0 14 = nI r ∧ (∀ i, i ≤ 3 → J 9 (4 * r + i) = nI (vBnd e i)) ∧ ∀ i, i < vBnd e 3 → J 8 (200 * r + i) = vCode e i
def RM (J : Nat → Nat → Int32) (e : Ev) : Prop :=
  (J 0 0 = nI (vP e) ∧ vP e ≤ 6) ∧ (J 0 7 = nI (vW e) ∧ vW e ≤ 10) ∧ J 0 8 = vDay e ∧ (∀ p, p < vP e → J 1 p = vKind e p ∧ J 2 p = vMore e p ∧ J 3 (2 * p) = vPride e p ∧ J 3 (2 * p + 1) = vName e p) ∧ (∀ k, k < vW e → J 4 k = vDo e k ∧ J 5 k = vWt e k ∧ J 6 k = vSw e k) ∧ LawM J e ∧ okLaw e
/-- the same but for some rows -/
def sme (ex : List Nat) (I I' : Nat → Nat → Int32) : Prop := ∀ a, a ∉ ex → I' a = I a
theorem sme_rf {ex : List Nat} {I : Nat → Nat → Int32} : sme ex I I := fun _ _ => rfl
theorem sme_tr {ex : List Nat} {I I' I'' : Nat → Nat → Int32} (h : sme ex I I') (h2 : sme ex I' I'') : sme ex I I'' := fun a ha => (h2 a ha).trans (h a ha)
theorem sme_up {ex : List Nat} {I : Nat → Nat → Int32} {a j : Nat} {v : Int32} (ha : a ∈ ex) : sme ex I (up2 I a j v) := by
  intro b hb
  funext x
  exact up2_o (fun q => hb (q ▸ ha))
theorem sme_wk {ex ex' : List Nat} {I I' : Nat → Nat → Int32} (h : sme ex I I') (hs : ∀ a ∈ ex, a ∈ ex') : sme ex' I I' := fun a ha => h a (fun q => ha (hs a q))
theorem RM_sme {J J' : Nat → Nat → Int32} {e : Ev} {ex : List Nat} (h : RM J e) (hs : sme ex J J') (he : ∀ a ∈ ex, 10 ≤ a) : RM J' e := by
  have f : ∀ a, a < 10 → J' a = J a := fun a ha => hs a (fun q => by have := he a q; omega)
  unfold RM LawM at h ⊢
  rw [f 0 (by decide), f 1 (by decide), f 2 (by decide), f 3 (by decide), f 4 (by decide), f 5 (by decide), f 6 (by decide), f 8 (by decide), f 9 (by decide)]
  exact h
