/-! THE PARSERS, without a heap: signs are numbers as the reference has them -/
abbrev Res : Type := (Nat × List Nat) ⊕ Nat
def bR (x : Res) (f : Nat → List Nat → Res) : Res := match x with
  | .inl q => f q.1 q.2
  | .inr e => .inr e
abbrev Tk : Type := (Nat → Nat) × (Nat → Nat)
def sg (k : Nat) : Nat := if k = 13 then 11 else if k = 14 then 12 else if k = 60 then 14 else if k = 61 then 15 else if k = 43 then 16 else if k = 45 then 17 else 18
def pP (T : Tk) (rc : Nat → Nat → List Nat → Res) (o t : Nat) (out : List Nat) : Res :=
  if T.1 t = 2 then .inl (t + 1, out ++ [100000 + T.2 t])
  else if 16 ≤ T.1 t ∧ T.1 t ≤ 21 then .inl (t + 1, out ++ [T.1 t - 16])
  else if T.1 t = 40 ∧ o < 5 then bR (rc (o + 1) (t + 1) out) fun t2 out2 => if T.1 t2 = 41 then .inl (t2 + 1, out2) else .inr t2
  else .inr t
def pO (T : Tk) (s : Nat) : Nat → Nat → Nat
  | 0, _ => 0
  | d + 1, t => if T.1 t = s then pO T s d (t + 1) + 1 else 0
def pPre (T : Tk) (s c : Nat) (sub : Nat → Nat → List Nat → Res) (o t : Nat) (out : List Nat) : Res :=
  bR (sub (o + pO T s (5 - o) t) (t + pO T s (5 - o) t) out) fun t2 out2 => .inl (t2, out2 ++ List.replicate (pO T s (5 - o) t) c)
def pL (T : Tk) (sub : Nat → List Nat → Res) (ops : Nat → Bool) : Nat → Nat → List Nat → Res
  | 0, t, out => .inl (t, out)
  | f + 1, t, out => if ops (T.1 t) = true then bR (sub (t + 1) out) fun t2 out2 => pL T sub ops f t2 (out2 ++ [sg (T.1 t)]) else .inl (t, out)
def pBin (T : Tk) (sub : Nat → List Nat → Res) (ops : Nat → Bool) (t : Nat) (out : List Nat) : Res := bR (sub t out) fun t2 out2 => pL T sub ops 160 t2 out2
def op1 (k : Nat) : Bool := decide (k = 13)
def op2 (k : Nat) : Bool := decide (k = 14)
def op5 (k : Nat) : Bool := decide (k = 43 ∨ k = 45)
def op6 (k : Nat) : Bool := decide (k = 42)
def pOne (T : Tk) (rc : Nat → Nat → List Nat → Res) (o t : Nat) (out : List Nat) : Res := pPre T 45 19 (pP T rc) o t out
def pTerm (T : Tk) (rc : Nat → Nat → List Nat → Res) (o t : Nat) (out : List Nat) : Res := pBin T (pOne T rc o) op6 t out
def pSum (T : Tk) (rc : Nat → Nat → List Nat → Res) (o t : Nat) (out : List Nat) : Res := pBin T (pTerm T rc o) op5 t out
def pCmp (T : Tk) (rc : Nat → Nat → List Nat → Res) (o t : Nat) (out : List Nat) : Res :=
  bR (pSum T rc o t out) fun t2 out2 => if T.1 t2 = 60 ∨ T.1 t2 = 61 then bR (pSum T rc o (t2 + 1) out2) fun t3 out3 => .inl (t3, out3 ++ [sg (T.1 t2)]) else .inl (t2, out2)
def pNot (T : Tk) (rc : Nat → Nat → List Nat → Res) (o t : Nat) (out : List Nat) : Res := pPre T 15 13 (pCmp T rc) o t out
def pAnd (T : Tk) (rc : Nat → Nat → List Nat → Res) (o t : Nat) (out : List Nat) : Res := pBin T (pNot T rc o) op2 t out
def pOrB (T : Tk) (rc : Nat → Nat → List Nat → Res) (o t : Nat) (out : List Nat) : Res := pBin T (pAnd T rc o) op1 t out
def pOr (T : Tk) : Nat → Nat → Nat → List Nat → Res
  | 0 => fun _ t _ => .inr t
  | d + 1 => pOrB T (pOr T d)
/-! the reference's machine: signs held, topmost first -/
def isOp (k : Nat) : Bool := decide (k = 13 ∨ k = 14 ∨ k = 60 ∨ k = 61 ∨ k = 43 ∨ k = 45 ∨ k = 42)
def rk (x : Nat) : Nat := if x = 0 then 0 else if x = 11 then 1 else if x = 12 then 2 else if x = 13 then 3 else if x ≤ 15 then 4 else if x ≤ 17 then 5 else if x = 18 then 6 else 7
def cnt : List Nat → Nat
  | [] => 0
  | x :: r => (if x = 0 ∨ x = 13 ∨ x = 19 then 1 else 0) + cnt r
def tW (r : Nat) : List Nat → List Nat
  | [] => []
  | x :: l => if r ≤ rk x then x :: tW r l else []
def dW (r : Nat) : List Nat → List Nat
  | [] => []
  | x :: l => if r ≤ rk x then dW r l else x :: l
def ul (k : Nat) : Nat := if rk (sg k) = 4 then 5 else rk (sg k)
def top4 : List Nat → Bool
  | [] => false
  | x :: _ => decide (rk x = 4)
def stp (T : Tk) (k : Bool → Bool → List Nat → List Nat → Res) (t : Nat) (w m : Bool) (H out : List Nat) : Res :=
  if w = true then
    if T.1 t = 2 then k false m (dW 7 H) (out ++ (100000 + T.2 t) :: tW 7 H)
    else if 16 ≤ T.1 t ∧ T.1 t ≤ 21 then k false m (dW 7 H) (out ++ (T.1 t - 16) :: tW 7 H)
    else if T.1 t = 15 ∧ m = true then (if cnt H = 5 then .inr t else k true m (13 :: H) out)
    else if T.1 t = 45 then (if cnt H = 5 then .inr t else k true false (19 :: H) out)
    else if T.1 t = 40 then (if cnt H = 5 then .inr t else k true true (0 :: H) out)
    else .inr t
  else if T.1 t = 59 then (if dW 1 H = [] then .inl (t + 1, out ++ tW 1 H) else .inr t)
  else if T.1 t = 41 then (match dW 1 H with
    | [] => .inr t
    | _ :: H2 => k false m (dW 7 H2) (out ++ tW 1 H ++ tW 7 H2))
  else if isOp (T.1 t) = true then (if rk (sg (T.1 t)) = 4 ∧ top4 (dW (ul (T.1 t)) H) = true then .inr t else k true (decide (sg (T.1 t) ≤ 12)) (sg (T.1 t) :: dW (ul (T.1 t)) H) (out ++ tW (ul (T.1 t)) H))
  else .inr t
def run (T : Tk) : Nat → Nat → Bool → Bool → List Nat → List Nat → Res
  | 0, t, _, _, _, _ => .inr t
  | f + 1, t, w, m, H, out => stp T (run T f (t + 1)) t w m H out
def rn (T : Tk) (M t : Nat) (w m : Bool) (H out : List Nat) : Res := run T (M - t) t w m H out
theorem rn_s {T : Tk} {M t : Nat} {w m : Bool} {H out : List Nat} (h : t < M) : rn T M t w m H out = stp T (rn T M (t + 1)) t w m H out := by
  unfold rn
  rw [show M - t = (M - (t + 1)) + 1 by omega]
  rfl
/-! both, tied -/
theorem tdW {r : Nat} {H : List Nat} (hH : ∀ x l, H = x :: l → rk x < r) : ∀ P : List Nat, (∀ x ∈ P, r ≤ rk x) → tW r (P ++ H) = P ∧ dW r (P ++ H) = H
  | [], _ => by
    cases H with
    | nil => exact ⟨rfl, rfl⟩
    | cons x l =>
      have := hH x l rfl
      show (if r ≤ rk x then _ else _) = _ ∧ (if r ≤ rk x then _ else _) = _
      rw [if_neg (by omega), if_neg (by omega)]
      exact ⟨rfl, rfl⟩
  | y :: P, h => by
    obtain ⟨h1, h2⟩ := tdW hH P (fun x hx => h x (List.mem_cons_of_mem _ hx))
    have hy := h y List.mem_cons_self
    show (if r ≤ rk y then y :: tW r (P ++ H) else []) = _ ∧ (if r ≤ rk y then dW r (P ++ H) else _) = _
    rw [if_pos hy, if_pos hy, h1, h2]
    exact ⟨rfl, rfl⟩
theorem cnt_app : ∀ P H : List Nat, cnt (P ++ H) = cnt P + cnt H
  | [], _ => (Nat.zero_add _).symm
  | x :: P, H => by
    show _ + cnt (P ++ H) = (_ + cnt P) + cnt H
    rw [cnt_app P H, Nat.add_assoc]
theorem cnt_rep {c : Nat} (hc : c = 0 ∨ c = 13 ∨ c = 19) : ∀ n, cnt (List.replicate n c) = n
  | 0 => rfl
  | n + 1 => by
    show (if c = 0 ∨ c = 13 ∨ c = 19 then 1 else 0) + cnt (List.replicate n c) = n + 1
    rw [cnt_rep hc n, if_pos hc, Nat.add_comm]
theorem isOp_l {k : Nat} (h : isOp k = true) : (k = 13 ∨ k = 14 ∨ k = 60 ∨ k = 61 ∨ k = 43 ∨ k = 45 ∨ k = 42) := of_decide_eq_true h
theorem sg_n {k : Nat} (h : isOp k = true) : ¬ (sg k = 0 ∨ sg k = 13 ∨ sg k = 19) := by
  rcases isOp_l h with rfl | rfl | rfl | rfl | rfl | rfl | rfl <;> decide
def mOK (T : Tk) (l : Nat) (m : Bool) (o t : Nat) : Prop := if l ≤ 3 then m = true else (m = false ∨ T.1 t ≠ 15 ∨ o = 5)
def eOK (T : Tk) (l t : Nat) (P : List Nat) : Prop := (l ≤ 6 → T.1 t ≠ 42) ∧ (l ≤ 5 → T.1 t ≠ 43 ∧ T.1 t ≠ 45) ∧ (l ≤ 4 → (T.1 t = 60 ∨ T.1 t = 61) → ∃ P2 c P3, P = P2 ++ c :: P3 ∧ (∀ x ∈ P2, 5 ≤ rk x) ∧ rk c = 4) ∧ (l ≤ 2 → T.1 t ≠ 14) ∧ (l ≤ 1 → T.1 t ≠ 13)
theorem eOK_app {T : Tk} {l t : Nat} {P Q : List Nat} (h : eOK T l t P) : eOK T l t (P ++ Q) := by
  obtain ⟨h1, h2, h3, h4, h5⟩ := h
  refine ⟨h1, h2, fun hl hk => ?_, h4, h5⟩
  obtain ⟨P2, c, P3, e, q1, q2⟩ := h3 hl hk
  exact ⟨P2, c, P3 ++ Q, by rw [e, List.append_assoc]; rfl, q1, q2⟩
def Gd (T : Tk) (N M l o : Nat) (sub : Nat → List Nat → Res) : Prop := ∀ (t : Nat) (m : Bool) (H out : List Nat), t ≤ N → cnt H = o → (∀ x r, H = x :: r → rk x < l) → mOK T l m o t →
  (∀ f, sub t out = .inr f → f ≤ N ∧ rn T M t true m H out = .inr f) ∧ ∀ t2 out2, sub t out = .inl (t2, out2) → (t < t2 ∧ t2 ≤ N) ∧ ∃ (P oR : List Nat) (m2 : Bool), oR ++ P = out2 ∧ (∀ x ∈ P, l ≤ rk x) ∧ eOK T l t2 P ∧ rn T M t true m H out = rn T M t2 false m2 (P ++ H) oR
theorem bin_L {T : Tk} {N M r o : Nat} {sub : Nat → List Nat → Res} {ops : Nat → Bool} (hN : T.1 N = 0) (hN1 : N ≤ 160) (hM : N < M) (hr : r ≠ 4 ∧ r ≠ 3 ∧ 1 ≤ r ∧ r ≤ 6) (hops : ∀ k, ops k = true ↔ (isOp k = true ∧ rk (sg k) = r)) (hs : Gd T N M (r + 1) o sub) (he : ∀ t P, eOK T (r + 1) t P → ops (T.1 t) = false → eOK T r t P) (H : List Nat) (hc : cnt H = o) (hH : ∀ x l, H = x :: l → rk x < r) :
    ∀ (f t : Nat) (m : Bool) (out P oR : List Nat), t ≤ N → 160 < f + t → oR ++ P = out → (∀ x ∈ P, r ≤ rk x) → eOK T (r + 1) t P →
      (∀ e, pL T sub ops f t out = .inr e → e ≤ N ∧ rn T M t false m (P ++ H) oR = .inr e) ∧ ∀ t2 out2, pL T sub ops f t out = .inl (t2, out2) → (t ≤ t2 ∧ t2 ≤ N) ∧ ∃ (P2 oR2 : List Nat) (m2 : Bool), oR2 ++ P2 = out2 ∧ (∀ x ∈ P2, r ≤ rk x) ∧ eOK T r t2 P2 ∧ rn T M t false m (P ++ H) oR = rn T M t2 false m2 (P2 ++ H) oR2 := by
  intro f
  induction f with
  | zero =>
    intro t m out P oR ht hf
    omega
  | succ f ih =>
    intro t m out P oR ht hf ho hP hE
    by_cases hk : ops (T.1 t) = true
    · obtain ⟨k1, k2⟩ := (hops _).mp hk
      have hk0 : T.1 t ≠ 0 := fun q => by rw [q] at k1; exact absurd k1 (by decide)
      have htN : t ≠ N := fun q => hk0 (by rw [q]; exact hN)
      have ek := isOp_l k1
      have e59 : T.1 t ≠ 59 := by omega
      have e41 : T.1 t ≠ 41 := by omega
      have eul : ul (T.1 t) = r := by
        unfold ul
        rw [if_neg (by rw [k2]; exact hr.1), k2]
      obtain ⟨w1, w2⟩ := tdW hH P hP
      have step : rn T M t false m (P ++ H) oR = rn T M (t + 1) true (decide (sg (T.1 t) ≤ 12)) (sg (T.1 t) :: H) out := by
        rw [rn_s (by omega)]
        unfold stp
        rw [if_neg (by decide), if_neg e59, if_neg e41, if_pos k1, if_neg (fun q => hr.1 (k2.symm.trans q.1)), eul, w1, w2, ho]
      have gm : mOK T (r + 1) (decide (sg (T.1 t) ≤ 12)) o (t + 1) := by
        unfold mOK
        split
        · rcases ek with e | e | e | e | e | e | e <;> rw [e] at k2 ⊢ <;> first | rfl | (exfalso; simp only [show rk (sg 60) = 4 from rfl, show rk (sg 61) = 4 from rfl, show rk (sg 43) = 5 from rfl, show rk (sg 45) = 5 from rfl, show rk (sg 42) = 6 from rfl] at k2; omega)
        · refine Or.inl ?_
          rcases ek with e | e | e | e | e | e | e <;> rw [e] at k2 ⊢ <;> first | rfl | (exfalso; simp only [show rk (sg 13) = 1 from rfl, show rk (sg 14) = 2 from rfl] at k2; omega)
      have gc : cnt (sg (T.1 t) :: H) = o := by
        show (if _ then 1 else 0) + cnt H = o
        rw [if_neg (sg_n k1), Nat.zero_add, hc]
      obtain ⟨s1, s2⟩ := hs (t + 1) (decide (sg (T.1 t) ≤ 12)) (sg (T.1 t) :: H) out (by omega) gc (fun x l e => by
        cases e
        rw [k2]
        omega) gm
      have eL : pL T sub ops (f + 1) t out = bR (sub (t + 1) out) fun t2 out2 => pL T sub ops f t2 (out2 ++ [sg (T.1 t)]) := if_pos hk
      rw [eL, step]
      cases hsub : sub (t + 1) out with
      | inr e =>
        obtain ⟨q1, q2⟩ := s1 e hsub
        refine ⟨fun e' h => ?_, fun t2 out2 h => by cases h⟩
        cases h
        exact ⟨q1, q2⟩
      | inl q =>
        obtain ⟨t3, out3⟩ := q
        obtain ⟨⟨h1, h2⟩, P3, oR3, m3, h3, h4, h5, h6⟩ := s2 t3 out3 hsub
        rw [h6]
        have eapp : P3 ++ sg (T.1 t) :: H = (P3 ++ [sg (T.1 t)]) ++ H := by rw [List.append_assoc]; rfl
        rw [eapp]
        obtain ⟨i1, i2⟩ := ih t3 m3 (out3 ++ [sg (T.1 t)]) (P3 ++ [sg (T.1 t)]) oR3 h2 (by omega) (by rw [← List.append_assoc, h3]) (fun x hx => by
          rcases List.mem_append.mp hx with hx | hx
          · have := h4 x hx
            omega
          · rw [List.mem_singleton.mp hx, k2]
            exact Nat.le_refl r) (eOK_app h5)
        refine ⟨fun e h => i1 e h, fun t2 out2 h => ?_⟩
        obtain ⟨⟨j1, j2⟩, j3⟩ := i2 t2 out2 h
        exact ⟨⟨by omega, j2⟩, j3⟩
    · have eL : pL T sub ops (f + 1) t out = .inl (t, out) := if_neg hk
      rw [eL]
      refine ⟨fun e h => (by cases h), fun t2 out2 h => ?_⟩
      cases h
      exact ⟨⟨Nat.le_refl _, ht⟩, P, oR, m, ho, hP, he t P hE (by simpa using hk), rfl⟩
theorem bin_G {T : Tk} {N M r o : Nat} {sub : Nat → List Nat → Res} {ops : Nat → Bool} (hN : T.1 N = 0) (hN1 : N ≤ 160) (hM : N < M) (hr : r ≠ 4 ∧ r ≠ 3 ∧ 1 ≤ r ∧ r ≤ 6) (hops : ∀ k, ops k = true ↔ (isOp k = true ∧ rk (sg k) = r)) (he : ∀ t P, eOK T (r + 1) t P → ops (T.1 t) = false → eOK T r t P) (hs : Gd T N M (r + 1) o sub) : Gd T N M r o (pBin T sub ops) := by
  intro t m H out ht hc hH hm
  have hm' : mOK T (r + 1) m o t := by
    unfold mOK at hm ⊢
    by_cases h3 : r ≤ 3
    · rw [if_pos h3] at hm
      rw [if_pos (by omega)]
      exact hm
    · rw [if_neg h3] at hm
      rw [if_neg (by omega)]
      exact hm
  obtain ⟨s1, s2⟩ := hs t m H out ht hc (fun x l e => by have := hH x l e; omega) hm'
  unfold pBin
  cases hsub : sub t out with
  | inr e =>
    refine ⟨fun f h => ?_, fun t2 out2 h => by cases h⟩
    cases h
    exact s1 e hsub
  | inl q =>
    obtain ⟨t3, out3⟩ := q
    obtain ⟨⟨h1, h2⟩, P3, oR3, m3, h3, h4, h5, h6⟩ := s2 t3 out3 hsub
    obtain ⟨i1, i2⟩ := bin_L hN hN1 hM hr hops hs he H hc hH 160 t3 m3 out3 P3 oR3 h2 (by omega) h3 (fun x hx => by have := h4 x hx; omega) h5
    rw [h6]
    refine ⟨fun e h => i1 e h, fun t2 out2 h => ?_⟩
    obtain ⟨⟨j1, j2⟩, j3⟩ := i2 t2 out2 h
    exact ⟨⟨by omega, j2⟩, j3⟩
