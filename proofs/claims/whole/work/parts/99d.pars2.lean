/-! the parsers, tied level by level -/
theorem ops_6 : ∀ k, op6 k = true ↔ (isOp k = true ∧ rk (sg k) = 6) := fun k => by
  constructor
  · intro h
    have h : k = 42 := of_decide_eq_true h
    subst h
    decide
  · rintro ⟨h1, h2⟩
    rcases isOp_l h1 with rfl | rfl | rfl | rfl | rfl | rfl | rfl <;> first | rfl | (exact absurd h2 (by decide))
theorem ops_5 : ∀ k, op5 k = true ↔ (isOp k = true ∧ rk (sg k) = 5) := fun k => by
  constructor
  · intro h
    have h : k = 43 ∨ k = 45 := of_decide_eq_true h
    rcases h with rfl | rfl <;> decide
  · rintro ⟨h1, h2⟩
    rcases isOp_l h1 with rfl | rfl | rfl | rfl | rfl | rfl | rfl <;> first | rfl | (exact absurd h2 (by decide))
theorem ops_2 : ∀ k, op2 k = true ↔ (isOp k = true ∧ rk (sg k) = 2) := fun k => by
  constructor
  · intro h
    have h : k = 14 := of_decide_eq_true h
    subst h
    decide
  · rintro ⟨h1, h2⟩
    rcases isOp_l h1 with rfl | rfl | rfl | rfl | rfl | rfl | rfl <;> first | rfl | (exact absurd h2 (by decide))
theorem ops_1 : ∀ k, op1 k = true ↔ (isOp k = true ∧ rk (sg k) = 1) := fun k => by
  constructor
  · intro h
    have h : k = 13 := of_decide_eq_true h
    subst h
    decide
  · rintro ⟨h1, h2⟩
    rcases isOp_l h1 with rfl | rfl | rfl | rfl | rfl | rfl | rfl <;> first | rfl | (exact absurd h2 (by decide))
theorem eOK_6 {T : Tk} {t : Nat} {P : List Nat} (h : eOK T 7 t P) (ho : op6 (T.1 t) = false) : eOK T 6 t P :=
  ⟨fun _ => of_decide_eq_false ho, fun h => absurd h (by decide), fun h => absurd h (by decide), fun h => absurd h (by decide), fun h => absurd h (by decide)⟩
theorem eOK_5 {T : Tk} {t : Nat} {P : List Nat} (h : eOK T 6 t P) (ho : op5 (T.1 t) = false) : eOK T 5 t P := by
  have : ¬ (T.1 t = 43 ∨ T.1 t = 45) := of_decide_eq_false ho
  exact ⟨fun _ => h.1 (by decide), fun _ => ⟨fun q => this (Or.inl q), fun q => this (Or.inr q)⟩, fun h => absurd h (by decide), fun h => absurd h (by decide), fun h => absurd h (by decide)⟩
theorem eOK_2 {T : Tk} {t : Nat} {P : List Nat} (h : eOK T 3 t P) (ho : op2 (T.1 t) = false) : eOK T 2 t P :=
  ⟨fun _ => h.1 (by decide), fun _ => h.2.1 (by decide), fun _ => h.2.2.1 (by decide), fun _ => of_decide_eq_false ho, fun h => absurd h (by decide)⟩
theorem eOK_1 {T : Tk} {t : Nat} {P : List Nat} (h : eOK T 2 t P) (ho : op1 (T.1 t) = false) : eOK T 1 t P :=
  ⟨fun _ => h.1 (by decide), fun _ => h.2.1 (by decide), fun _ => h.2.2.1 (by decide), fun _ => h.2.2.2.1 (by decide), fun _ => of_decide_eq_false ho⟩
theorem cmp_G {T : Tk} {N M o : Nat} {rc : Nat → Nat → List Nat → Res} (hN : T.1 N = 0) (hM : N < M) (hs : Gd T N M 5 o (pSum T rc o)) : Gd T N M 4 o (pCmp T rc o) := by
  intro t m H out ht hc hH hm
  have hm' : mOK T 5 m o t := by
    unfold mOK at hm ⊢
    rw [if_neg (by decide)] at hm ⊢
    exact hm
  obtain ⟨s1, s2⟩ := hs t m H out ht hc (fun x l e => by have := hH x l e; omega) hm'
  unfold pCmp
  cases hsub : pSum T rc o t out with
  | inr e =>
    refine ⟨fun f h => ?_, fun t2 out2 h => by cases h⟩
    cases h
    exact s1 e hsub
  | inl q =>
    obtain ⟨t3, out3⟩ := q
    obtain ⟨⟨h1, h2⟩, P3, oR3, m3, h3, h4, h5, h6⟩ := s2 t3 out3 hsub
    show (∀ f, (if T.1 t3 = 60 ∨ T.1 t3 = 61 then bR (pSum T rc o (t3 + 1) out3) fun t3' out3' => .inl (t3', out3' ++ [sg (T.1 t3)]) else .inl (t3, out3) : Res) = .inr f → _) ∧ ∀ t2 out2, (if T.1 t3 = 60 ∨ T.1 t3 = 61 then bR (pSum T rc o (t3 + 1) out3) fun t3' out3' => .inl (t3', out3' ++ [sg (T.1 t3)]) else .inl (t3, out3) : Res) = .inl (t2, out2) → _
    by_cases hk : T.1 t3 = 60 ∨ T.1 t3 = 61
    · have htN : t3 ≠ N := fun q => by rw [q, hN] at hk; omega
      have k1 : isOp (T.1 t3) = true := decide_eq_true (by omega)
      have k4 : rk (sg (T.1 t3)) = 4 := by rcases hk with e | e <;> rw [e] <;> rfl
      have eul : ul (T.1 t3) = 5 := by unfold ul; rw [if_pos k4]
      obtain ⟨w1, w2⟩ := tdW (r := 5) (fun x l e => by have := hH x l e; omega) P3 h4
      have ntop : ¬ top4 H = true := by
        cases H with
        | nil => decide
        | cons x l =>
          intro q
          have q : rk x = 4 := of_decide_eq_true q
          have := hH x l rfl
          omega
      have step : rn T M t3 false m3 (P3 ++ H) oR3 = rn T M (t3 + 1) true false (sg (T.1 t3) :: H) out3 := by
        rw [rn_s (by omega)]
        unfold stp
        rw [if_neg (by decide), if_neg (by omega), if_neg (by omega), if_pos k1, eul, w1, w2, h3, if_neg (fun q => ntop q.2)]
        rcases hk with e | e <;> rw [e] <;> rfl
      obtain ⟨i1, i2⟩ := hs (t3 + 1) false (sg (T.1 t3) :: H) out3 (by omega) (by
        show (if _ then 1 else 0) + cnt H = o
        rw [if_neg (sg_n k1), Nat.zero_add, hc]) (fun x l e => by
        cases e
        rw [k4]
        decide) (by
        unfold mOK
        rw [if_neg (by decide)]
        exact Or.inl rfl)
      rw [if_pos hk, h6, step]
      cases hsub2 : pSum T rc o (t3 + 1) out3 with
      | inr e =>
        refine ⟨fun f h => ?_, fun t2 out2 h => by cases h⟩
        cases h
        exact i1 e hsub2
      | inl q =>
        obtain ⟨t4, out4⟩ := q
        obtain ⟨⟨j1, j2⟩, P4, oR4, m4, j3, j4, j5, j6⟩ := i2 t4 out4 hsub2
        refine ⟨fun f h => (by cases h), fun t2 out2 h => ?_⟩
        cases h
        refine ⟨⟨by omega, j2⟩, P4 ++ [sg (T.1 t3)], oR4, m4, by rw [← List.append_assoc, j3], fun x hx => ?_, ⟨fun _ => j5.1 (by decide), fun _ => j5.2.1 (by decide), fun _ _ => ⟨P4, sg (T.1 t3), [], rfl, j4, k4⟩, fun h => absurd h (by decide), fun h => absurd h (by decide)⟩, by rw [j6, List.append_assoc]; rfl⟩
        rcases List.mem_append.mp hx with hx | hx
        · have := j4 x hx
          omega
        · rw [List.mem_singleton.mp hx, k4]
          exact Nat.le_refl 4
    · rw [if_neg hk, h6]
      refine ⟨fun f h => (by cases h), fun t2 out2 h => ?_⟩
      cases h
      exact ⟨⟨h1, h2⟩, P3, oR3, m3, h3, fun x hx => by have := h4 x hx; omega, ⟨fun _ => h5.1 (by decide), fun _ => h5.2.1 (by decide), fun _ q => absurd q hk, fun h => absurd h (by decide), fun h => absurd h (by decide)⟩, rfl⟩
theorem pO_le {T : Tk} {s : Nat} : ∀ d t, pO T s d t ≤ d
  | 0, _ => Nat.le_refl _
  | d + 1, t => by
    show (if T.1 t = s then pO T s d (t + 1) + 1 else 0) ≤ d + 1
    have := pO_le (T := T) (s := s) d (t + 1)
    split <;> omega
theorem pO_end {T : Tk} {s : Nat} : ∀ d t, pO T s d t = d ∨ T.1 (t + pO T s d t) ≠ s
  | 0, _ => Or.inl rfl
  | d + 1, t => by
    show (if T.1 t = s then pO T s d (t + 1) + 1 else 0) = d + 1 ∨ T.1 (t + (if T.1 t = s then pO T s d (t + 1) + 1 else 0)) ≠ s
    by_cases h : T.1 t = s
    · rw [if_pos h]
      rcases pO_end (T := T) (s := s) d (t + 1) with q | q
      · exact Or.inl (by omega)
      · refine Or.inr ?_
        rw [show t + (pO T s d (t + 1) + 1) = t + 1 + pO T s d (t + 1) by omega]
        exact q
    · rw [if_neg h]
      exact Or.inr h
theorem rep_top {c l : Nat} {H : List Nat} (hc : rk c < l) (hH : ∀ x r, H = x :: r → rk x < l) : ∀ n x r, List.replicate n c ++ H = x :: r → rk x < l
  | 0, x, r, e => hH x r e
  | n + 1, x, r, e => by
    have : c = x := by
      have := congrArg List.head? e
      simpa [List.replicate_succ] using this
    rw [← this]
    exact hc
/-- the signs ahead of an operand, one after the other -/
theorem pre_R {T : Tk} {N M s c : Nat} {m2 : Bool} (hN : T.1 N = 0) (hM : N < M) (hs0 : s ≠ 0) (hc : c = 13 ∨ c = 19) (hst : ∀ t m H out, t < M → T.1 t = s → cnt H < 5 → (c = 13 → m = true) → rn T M t true m H out = rn T M (t + 1) true m2 (c :: H) out) (hm2 : c = 13 → m2 = true) :
    ∀ (d t : Nat) (m : Bool) (H out : List Nat), t ≤ N → cnt H + d = 5 → (c = 13 → m = true) → t + pO T s d t ≤ N ∧ rn T M t true m H out = rn T M (t + pO T s d t) true (if pO T s d t = 0 then m else m2) (List.replicate (pO T s d t) c ++ H) out
  | 0, t, m, H, out, ht, _, _ => ⟨ht, rfl⟩
  | d + 1, t, m, H, out, ht, hd, hm => by
    show t + (if T.1 t = s then pO T s d (t + 1) + 1 else 0) ≤ N ∧ _ = rn T M (t + (if T.1 t = s then pO T s d (t + 1) + 1 else 0)) true (if (if T.1 t = s then pO T s d (t + 1) + 1 else 0) = 0 then m else m2) (List.replicate (if T.1 t = s then pO T s d (t + 1) + 1 else 0) c ++ H) out
    by_cases h : T.1 t = s
    · have htN : t ≠ N := fun q => hs0 (by rw [← h, q]; exact hN)
      obtain ⟨i1, i2⟩ := pre_R hN hM hs0 hc hst hm2 d (t + 1) m2 (c :: H) out (by omega) (by
        show (if c = 0 ∨ c = 13 ∨ c = 19 then 1 else 0) + cnt H + d = 5
        rw [if_pos (Or.inr hc)]
        omega) hm2
      have e1 : (if pO T s d (t + 1) = 0 then m2 else m2) = m2 := by split <;> rfl
      rw [if_pos h, hst t m H out (by omega) h (by omega) hm, i2, e1, if_neg (show ¬ pO T s d (t + 1) + 1 = 0 by omega)]
      refine ⟨by omega, ?_⟩
      rw [show t + (pO T s d (t + 1) + 1) = t + 1 + pO T s d (t + 1) by omega]
      have e2 : List.replicate (pO T s d (t + 1)) c ++ c :: H = List.replicate (pO T s d (t + 1) + 1) c ++ H := by
        rw [List.replicate_succ', List.append_assoc]
        rfl
      rw [e2]
    · rw [if_neg h]
      exact ⟨ht, rfl⟩
theorem not_G {T : Tk} {N M o : Nat} {rc : Nat → Nat → List Nat → Res} (hN : T.1 N = 0) (hM : N < M) (ho : o ≤ 5) (hs : ∀ o', o ≤ o' → o' ≤ 5 → Gd T N M 4 o' (pCmp T rc o')) : Gd T N M 3 o (pNot T rc o) := by
  intro t m H out ht hc hH hm
  have hm : m = true := by
    unfold mOK at hm
    rw [if_pos (by decide)] at hm
    exact hm
  have hle := pO_le (T := T) (s := 15) (5 - o) t
  have hend := pO_end (T := T) (s := 15) (5 - o) t
  obtain ⟨r1, r2⟩ := pre_R (T := T) (N := N) (M := M) (s := 15) (c := 13) (m2 := true) hN hM (by decide) (Or.inl rfl) (fun t m H out h1 h2 h3 h4 => by
    have hm := h4 rfl
    rw [rn_s h1]
    unfold stp
    rw [if_pos rfl, if_neg (by omega), if_neg (by omega), if_pos ⟨h2, hm⟩, if_neg (by omega), hm]) (fun _ => rfl) (5 - o) t m H out ht (by omega) (fun _ => hm)
  have em : (if pO T 15 (5 - o) t = 0 then m else true) = true := by rw [hm]; split <;> rfl
  rw [em] at r2
  unfold pNot pPre
  rw [r2]
  generalize pO T 15 (5 - o) t = n at *
  obtain ⟨s1, s2⟩ := hs (o + n) (by omega) (by omega) (t + n) true (List.replicate n 13 ++ H) out r1 (by rw [cnt_app, cnt_rep (Or.inr (Or.inl rfl)), hc, Nat.add_comm]) (rep_top (by decide) (fun x l e => by have := hH x l e; omega) n) (by
    unfold mOK
    rw [if_neg (by decide)]
    rcases hend with q | q
    · exact Or.inr (Or.inr (by omega))
    · exact Or.inr (Or.inl q))
  cases hsub : pCmp T rc (o + n) (t + n) out with
  | inr e =>
    refine ⟨fun f h => ?_, fun t2 out2 h => by cases h⟩
    cases h
    exact s1 e hsub
  | inl q =>
    obtain ⟨t3, out3⟩ := q
    obtain ⟨⟨h1, h2⟩, P3, oR3, m3, h3, h4, h5, h6⟩ := s2 t3 out3 hsub
    refine ⟨fun f h => (by cases h), fun t2 out2 h => ?_⟩
    cases h
    refine ⟨⟨by omega, h2⟩, P3 ++ List.replicate n 13, oR3, m3, by rw [← List.append_assoc, h3], fun x hx => ?_, ?_, by rw [h6, List.append_assoc]⟩
    · rcases List.mem_append.mp hx with hx | hx
      · have := h4 x hx
        omega
      · rw [(List.mem_replicate.mp hx).2]
        decide
    · have h5 := eOK_app (Q := List.replicate n 13) h5
      exact ⟨fun _ => h5.1 (by decide), fun _ => h5.2.1 (by decide), fun _ => h5.2.2.1 (by decide), fun h => absurd h (by decide), fun h => absurd h (by decide)⟩
/-- an E that can't go on: the machine stops at the same token -/
theorem stop_R {T : Tk} {M t : Nat} {m : Bool} {P H oR : List Nat} (hM : t < M) (hE : eOK T 1 t P) (h59 : T.1 t = 59 → dW 1 (P ++ H) ≠ []) (h41 : T.1 t = 41 → dW 1 (P ++ H) = []) : rn T M t false m (P ++ H) oR = .inr t := by
  rw [rn_s hM]
  unfold stp
  rw [if_neg (by decide)]
  by_cases k1 : T.1 t = 59
  · rw [if_pos k1, if_neg (h59 k1)]
  rw [if_neg k1]
  by_cases k2 : T.1 t = 41
  · rw [if_pos k2, h41 k2]
  rw [if_neg k2]
  by_cases k3 : isOp (T.1 t) = true
  · obtain ⟨e1, e2, e3, e4, e5⟩ := hE
    have e1 := e1 (by decide)
    have e2 := e2 (by decide)
    have e4 := e4 (by decide)
    have e5 := e5 (by decide)
    have ek := isOp_l k3
    have hk : T.1 t = 60 ∨ T.1 t = 61 := by omega
    obtain ⟨P2, c, P3, e, q1, q2⟩ := e3 (by decide) hk
    have k4 : rk (sg (T.1 t)) = 4 := by rcases hk with e | e <;> rw [e] <;> rfl
    have eul : ul (T.1 t) = 5 := by unfold ul; rw [if_pos k4]
    have ed : dW 5 (P ++ H) = c :: (P3 ++ H) := by
      rw [e, List.append_assoc]
      exact (tdW (r := 5) (H := c :: (P3 ++ H)) (fun x l e => by cases e; omega) P2 q1).2
    rw [if_pos k3, eul, ed, if_pos ⟨k4, decide_eq_true q2⟩]
  · rw [if_neg k3]
theorem one_G {T : Tk} {N M o : Nat} {rc : Nat → Nat → List Nat → Res} (hN : T.1 N = 0) (hM : N < M) (ho : o ≤ 5) (hs : ∀ o', o ≤ o' → o' < 5 → Gd T N M 1 (o' + 1) (rc (o' + 1))) : Gd T N M 7 o (pOne T rc o) := by
  intro t m H out ht hc hH hm
  have hle := pO_le (T := T) (s := 45) (5 - o) t
  have hend := pO_end (T := T) (s := 45) (5 - o) t
  obtain ⟨r1, r2⟩ := pre_R (T := T) (N := N) (M := M) (s := 45) (c := 19) (m2 := false) hN hM (by decide) (Or.inr rfl) (fun t m H out h1 h2 h3 _ => by
    rw [rn_s h1]
    unfold stp
    rw [if_pos rfl, if_neg (by omega), if_neg (by omega), if_neg (by omega), if_pos h2, if_neg (by omega)]) (fun h => by cases h) (5 - o) t m H out ht (by omega) (fun h => by cases h)
  have hmk : T.1 (t + pO T 45 (5 - o) t) = 15 → (if pO T 45 (5 - o) t = 0 then m else false) = true → o + pO T 45 (5 - o) t = 5 := by
    intro h1 h2
    by_cases h0 : pO T 45 (5 - o) t = 0
    · rw [if_pos h0] at h2
      rw [h0, Nat.add_zero] at h1
      unfold mOK at hm
      rw [if_neg (by decide)] at hm
      rcases hm with q | q | q
      · rw [h2] at q
        cases q
      · exact absurd h1 q
      · omega
    · rw [if_neg h0] at h2
      cases h2
  unfold pOne pPre
  rw [r2]
  generalize (if pO T 45 (5 - o) t = 0 then m else false) = m1 at *
  generalize pO T 45 (5 - o) t = n at *
  obtain ⟨w1, w2⟩ := tdW (r := 7) hH (List.replicate n 19) (fun x hx => by rw [(List.mem_replicate.mp hx).2]; decide)
  have hcn : cnt (List.replicate n 19 ++ H) = o + n := by rw [cnt_app, cnt_rep (Or.inr (Or.inr rfl)), hc, Nat.add_comm]
  have hM2 : t + n < M := by omega
  unfold pP
  by_cases k2 : T.1 (t + n) = 2
  · have hne : t + n ≠ N := fun q => by rw [q, hN] at k2; cases k2
    rw [if_pos k2]
    refine ⟨fun f h => (by cases h), fun t2 out2 h => ?_⟩
    cases h
    refine ⟨⟨by omega, by omega⟩, [], out ++ [100000 + T.2 (t + n)] ++ List.replicate n 19, m1, by rw [List.append_nil], fun x hx => (by cases hx), ⟨fun h => absurd h (by decide), fun h => absurd h (by decide), fun h => absurd h (by decide), fun h => absurd h (by decide), fun h => absurd h (by decide)⟩, ?_⟩
    rw [rn_s hM2]
    unfold stp
    rw [if_pos rfl, if_pos k2, w1, w2, List.append_assoc]
    rfl
  rw [if_neg k2]
  by_cases k16 : 16 ≤ T.1 (t + n) ∧ T.1 (t + n) ≤ 21
  · have hne : t + n ≠ N := fun q => by rw [q, hN] at k16; omega
    rw [if_pos k16]
    refine ⟨fun f h => (by cases h), fun t2 out2 h => ?_⟩
    cases h
    refine ⟨⟨by omega, by omega⟩, [], out ++ [T.1 (t + n) - 16] ++ List.replicate n 19, m1, by rw [List.append_nil], fun x hx => (by cases hx), ⟨fun h => absurd h (by decide), fun h => absurd h (by decide), fun h => absurd h (by decide), fun h => absurd h (by decide), fun h => absurd h (by decide)⟩, ?_⟩
    rw [rn_s hM2]
    unfold stp
    rw [if_pos rfl, if_neg k2, if_pos k16, w1, w2, List.append_assoc]
    rfl
  rw [if_neg k16]
  by_cases k40 : T.1 (t + n) = 40 ∧ o + n < 5
  · have hne : t + n ≠ N := fun q => by rw [q, hN] at k40; exact absurd k40.1 (by decide)
    obtain ⟨s1, s2⟩ := hs (o + n) (by omega) k40.2 (t + n + 1) true (0 :: (List.replicate n 19 ++ H)) out (by omega) (by
      show 1 + cnt (List.replicate n 19 ++ H) = o + n + 1
      rw [hcn, Nat.add_comm]) (fun x l e => by
      cases e
      decide) (by
      unfold mOK
      rw [if_pos (by decide)])
    have step : rn T M (t + n) true m1 (List.replicate n 19 ++ H) out = rn T M (t + n + 1) true true (0 :: (List.replicate n 19 ++ H)) out := by
      rw [rn_s hM2]
      unfold stp
      rw [if_pos rfl, if_neg k2, if_neg k16, if_neg (by omega), if_neg (by omega), if_pos k40.1, hcn, if_neg (by omega)]
    rw [if_pos k40, step]
    cases hsub : rc (o + n + 1) (t + n + 1) out with
    | inr e =>
      refine ⟨fun f h => ?_, fun t2 out2 h => by cases h⟩
      cases h
      exact s1 e hsub
    | inl q =>
      obtain ⟨t3, out3⟩ := q
      obtain ⟨⟨h1, h2⟩, P3, oR3, m3, h3, h4, h5, h6⟩ := s2 t3 out3 hsub
      obtain ⟨v1, v2⟩ := tdW (r := 1) (H := 0 :: (List.replicate n 19 ++ H)) (fun x l e => by cases e; decide) P3 h4
      rw [h6]
      show (∀ f, bR (if T.1 t3 = 41 then .inl (t3 + 1, out3) else .inr t3) _ = .inr f → _) ∧ ∀ t2 out2, bR (if T.1 t3 = 41 then .inl (t3 + 1, out3) else .inr t3) _ = .inl (t2, out2) → _
      by_cases k41 : T.1 t3 = 41
      · have hne3 : t3 ≠ N := fun q => by rw [q, hN] at k41; cases k41
        rw [if_pos k41]
        refine ⟨fun f h => (by cases h), fun t2 out2 h => ?_⟩
        cases h
        refine ⟨⟨by omega, by omega⟩, [], out3 ++ List.replicate n 19, m3, by rw [List.append_nil], fun x hx => (by cases hx), ⟨fun h => absurd h (by decide), fun h => absurd h (by decide), fun h => absurd h (by decide), fun h => absurd h (by decide), fun h => absurd h (by decide)⟩, ?_⟩
        rw [rn_s (by omega)]
        unfold stp
        rw [if_neg (by decide), if_neg (by omega), if_pos k41, v2, v1]
        show rn T M (t3 + 1) false m3 (dW 7 (List.replicate n 19 ++ H)) (oR3 ++ P3 ++ tW 7 (List.replicate n 19 ++ H)) = _
        rw [w1, w2, h3]
        rfl
      · rw [if_neg k41]
        refine ⟨fun f h => ?_, fun t2 out2 h => by cases h⟩
        cases h
        refine ⟨h2, stop_R (by omega) h5 (fun _ => by rw [v2]; intro q; cases q) (fun q => absurd q k41)⟩
  rw [if_neg k40]
  refine ⟨fun f h => ?_, fun t2 out2 h => by cases h⟩
  cases h
  refine ⟨r1, ?_⟩
  rw [rn_s hM2]
  unfold stp
  rw [if_pos rfl, if_neg k2, if_neg k16]
  by_cases k15 : T.1 (t + n) = 15 ∧ m1 = true
  · rw [if_pos k15, hcn, if_pos (hmk k15.1 k15.2)]
  rw [if_neg k15]
  by_cases k45 : T.1 (t + n) = 45
  · rw [if_pos k45, hcn, if_pos (by
      rcases hend with q | q
      · omega
      · exact absurd k45 q)]
  rw [if_neg k45]
  by_cases k40' : T.1 (t + n) = 40
  · rw [if_pos k40', hcn, if_pos (by omega)]
  · rw [if_neg k40']
theorem or_G {T : Tk} {N M : Nat} (hN : T.1 N = 0) (hN1 : N ≤ 160) (hM : N < M) : ∀ d o, o ≤ 5 → 6 ≤ d + o → Gd T N M 1 o (pOr T d o)
  | 0, o, h1, h2 => by omega
  | d + 1, o, h1, h2 => by
    have h1' : ∀ o', o ≤ o' → o' ≤ 5 → Gd T N M 7 o' (pOne T (pOr T d) o') := fun o' h3 h4 => one_G hN hM h4 (fun o2 h5 h6 => or_G hN hN1 hM d (o2 + 1) (by omega) (by omega))
    have h6 : ∀ o', o ≤ o' → o' ≤ 5 → Gd T N M 6 o' (pTerm T (pOr T d) o') := fun o' h3 h4 => bin_G hN hN1 hM (by decide) ops_6 (fun t P => eOK_6) (h1' o' h3 h4)
    have h5 : ∀ o', o ≤ o' → o' ≤ 5 → Gd T N M 5 o' (pSum T (pOr T d) o') := fun o' h3 h4 => bin_G hN hN1 hM (by decide) ops_5 (fun t P => eOK_5) (h6 o' h3 h4)
    have h4 : ∀ o', o ≤ o' → o' ≤ 5 → Gd T N M 4 o' (pCmp T (pOr T d) o') := fun o' h3 h4 => cmp_G hN hM (h5 o' h3 h4)
    have h3 : Gd T N M 3 o (pNot T (pOr T d) o) := not_G hN hM h1 h4
    have h2 : Gd T N M 2 o (pAnd T (pOr T d) o) := bin_G hN hN1 hM (by decide) ops_2 (fun t P => eOK_2) h3
    exact bin_G hN hN1 hM (by decide) ops_1 (fun t P => eOK_1) h2
/-- an E and its ; -/
def pE (T : Tk) (t : Nat) (out : List Nat) : Res := bR (pOr T 7 0 t out) fun t2 out2 => if T.1 t2 = 59 then .inl (t2 + 1, out2) else .inr t2
theorem pE_R {T : Tk} {N M t : Nat} {out : List Nat} (hN : T.1 N = 0) (hN1 : N ≤ 160) (hM : N < M) (ht : t ≤ N) : rn T M t true true [] out = pE T t out ∧ (∀ f, pE T t out = .inr f → f ≤ N) ∧ ∀ t2 out2, pE T t out = .inl (t2, out2) → t < t2 ∧ t2 ≤ N := by
  obtain ⟨s1, s2⟩ := or_G hN hN1 hM 7 0 (by decide) (by decide) t true [] out ht rfl (fun x r e => by cases e) (by unfold mOK; rw [if_pos (by decide)])
  unfold pE
  cases hsub : pOr T 7 0 t out with
  | inr e =>
    obtain ⟨q1, q2⟩ := s1 e hsub
    exact ⟨q2, fun f h => (by cases h; exact q1), fun t2 out2 h => by cases h⟩
  | inl q =>
    obtain ⟨t3, out3⟩ := q
    obtain ⟨⟨h1, h2⟩, P3, oR3, m3, h3, h4, h5, h6⟩ := s2 t3 out3 hsub
    obtain ⟨v1, v2⟩ := tdW (r := 1) (H := []) (fun x l e => by cases e) P3 h4
    rw [h6]
    show rn T M t3 false m3 (P3 ++ []) oR3 = (if T.1 t3 = 59 then .inl (t3 + 1, out3) else .inr t3 : Res) ∧ (∀ f, (if T.1 t3 = 59 then .inl (t3 + 1, out3) else .inr t3 : Res) = .inr f → _) ∧ ∀ t2 out2, (if T.1 t3 = 59 then .inl (t3 + 1, out3) else .inr t3 : Res) = .inl (t2, out2) → _
    by_cases k59 : T.1 t3 = 59
    · have hne3 : t3 ≠ N := fun q => by rw [q, hN] at k59; cases k59
      rw [if_pos k59]
      refine ⟨?_, fun f h => (by cases h), fun t2 out2 h => by cases h; omega⟩
      rw [rn_s (by omega)]
      unfold stp
      rw [if_neg (by decide), if_pos k59, v2, if_pos rfl, v1, h3]
    · rw [if_neg k59]
      exact ⟨stop_R (by omega) h5 (fun q => absurd q k59) (fun _ => v2), fun f h => (by cases h; exact h2), fun t2 out2 h => by cases h⟩
