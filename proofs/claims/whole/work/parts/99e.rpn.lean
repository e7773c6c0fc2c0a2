/-! what the descent writes can be worked off -/
def hsl : List Nat → Nat → Nat
  | [], h => h
  | x :: D, h => hsl D (hst (nI x) h)
def nsl : List Nat → Nat → Prop
  | [], _ => True
  | x :: D, h => vld (nI x) ∧ nst (nI x) h ∧ nsl D (hst (nI x) h)
theorem hsl_app : ∀ (A B : List Nat) (h : Nat), hsl (A ++ B) h = hsl B (hsl A h)
  | [], _, _ => rfl
  | x :: A, B, h => hsl_app A B (hst (nI x) h)
theorem nsl_app : ∀ (A B : List Nat) (h : Nat), nsl A h → nsl B (hsl A h) → nsl (A ++ B) h
  | [], _, _, _, h2 => h2
  | x :: A, B, h, h1, h2 => ⟨h1.1, h1.2.1, nsl_app A B (hst (nI x) h) h1.2.2 h2⟩
def rp (D : List Nat) : Prop := ∀ h, nsl D h ∧ hsl D h = h + 1
theorem rp_num {v : Nat} (hv : v < 10000) : rp [100000 + v] := by
  intro h
  have n1 : (100000 : Int32) ≤ nI (100000 + v) := by rw [lit 100000]; exact nI_le (by omega) (by omega)
  exact ⟨⟨Or.inl ⟨v, hv, rfl⟩, by unfold nst; rw [if_pos n1]; trivial, trivial⟩, by show hst _ h = h + 1; unfold hst; rw [if_pos n1]⟩
theorem rp_nam {i : Nat} (hi : i < 6) : rp [i] := by
  intro h
  have n1 : ¬ (100000 : Int32) ≤ nI i := by rw [lit 100000]; exact nI_ge (by omega) (by omega)
  have n3 : nI i < (11 : Int32) := by rw [lit 11]; exact nI_lt (by omega) (by omega)
  exact ⟨⟨Or.inr (Or.inl ⟨i, hi, rfl⟩), by unfold nst; rw [if_neg n1, if_pos n3]; trivial, trivial⟩, by show hst _ h = h + 1; unfold hst; rw [if_neg n1, if_pos n3]⟩
theorem rp_un {D : List Nat} {c : Nat} (hc : c = 13 ∨ c = 19) (hD : rp D) : rp (D ++ [c]) := by
  intro h
  obtain ⟨h1, h2⟩ := hD h
  have e : hst (nI c) (h + 1) = h + 1 := by rcases hc with rfl | rfl <;> rfl
  have v : vld (nI c) := by
    rcases hc with rfl | rfl
    · exact Or.inr (Or.inr (Or.inr (Or.inr (Or.inl rfl))))
    · exact Or.inr (Or.inr (Or.inr (Or.inr (Or.inr (Or.inr (Or.inr (Or.inr (Or.inr (Or.inr rfl)))))))))
  have n : nst (nI c) (h + 1) := by
    rcases hc with rfl | rfl
    · show 1 ≤ h + 1
      omega
    · show 1 ≤ h + 1
      omega
  refine ⟨nsl_app D [c] h h1 ?_, ?_⟩
  · rw [h2]
    exact ⟨v, n, trivial⟩
  · rw [hsl_app, h2]
    exact e
theorem rp_uns {D : List Nat} {c : Nat} (hc : c = 13 ∨ c = 19) (hD : rp D) : ∀ n, rp (D ++ List.replicate n c)
  | 0 => by rw [List.replicate_zero, List.append_nil]; exact hD
  | n + 1 => by
    rw [List.replicate_succ', ← List.append_assoc]
    exact rp_un hc (rp_uns hc hD n)
theorem rp_bin {A B : List Nat} {k : Nat} (hk : isOp k = true) (hA : rp A) (hB : rp B) : rp (A ++ B ++ [sg k]) := by
  intro h
  obtain ⟨a1, a2⟩ := hA h
  obtain ⟨b1, b2⟩ := hB (h + 1)
  have e : hst (nI (sg k)) (h + 2) = h + 1 := by rcases isOp_l hk with rfl | rfl | rfl | rfl | rfl | rfl | rfl <;> rfl
  have v : vld (nI (sg k)) := by
    unfold vld
    rcases isOp_l hk with rfl | rfl | rfl | rfl | rfl | rfl | rfl
    · exact Or.inr (Or.inr (Or.inl rfl))
    · exact Or.inr (Or.inr (Or.inr (Or.inl rfl)))
    · exact Or.inr (Or.inr (Or.inr (Or.inr (Or.inr (Or.inl rfl)))))
    · exact Or.inr (Or.inr (Or.inr (Or.inr (Or.inr (Or.inr (Or.inl rfl))))))
    · exact Or.inr (Or.inr (Or.inr (Or.inr (Or.inr (Or.inr (Or.inr (Or.inl rfl)))))))
    · exact Or.inr (Or.inr (Or.inr (Or.inr (Or.inr (Or.inr (Or.inr (Or.inr (Or.inl rfl))))))))
    · exact Or.inr (Or.inr (Or.inr (Or.inr (Or.inr (Or.inr (Or.inr (Or.inr (Or.inr (Or.inl rfl)))))))))
  have n : nst (nI (sg k)) (h + 2) := by
    rcases isOp_l hk with rfl | rfl | rfl | rfl | rfl | rfl | rfl <;> exact (show 2 ≤ h + 2 by omega)
  have hAB : hsl (A ++ B) h = h + 2 := by rw [hsl_app, a2, b2]
  refine ⟨nsl_app (A ++ B) [sg k] h (nsl_app A B h a1 (by rw [a2]; exact b1)) ?_, ?_⟩
  · rw [hAB]
    exact ⟨v, n, trivial⟩
  · rw [hsl_app, hAB]
    exact e
def Ou (sub : Nat → List Nat → Res) : Prop := ∀ t out t2 out2, sub t out = .inl (t2, out2) → ∃ D, out2 = out ++ D ∧ rp D ∧ D.length + t ≤ t2
theorem ou_L {T : Tk} {sub : Nat → List Nat → Res} {ops : Nat → Bool} (hops : ∀ k, ops k = true → isOp k = true) (hs : Ou sub) (t0 : Nat) (base : List Nat) : ∀ (f t : Nat) (D0 : List Nat) (t2 : Nat) (out2 : List Nat), rp D0 → D0.length + t0 ≤ t → pL T sub ops f t (base ++ D0) = .inl (t2, out2) → ∃ D, out2 = base ++ D ∧ rp D ∧ D.length + t0 ≤ t2
  | 0, t, D0, t2, out2, h1, h2, h => by
    cases h
    exact ⟨D0, rfl, h1, h2⟩
  | f + 1, t, D0, t2, out2, h1, h2, h => by
    by_cases hk : ops (T.1 t) = true
    · have eL : pL T sub ops (f + 1) t (base ++ D0) = bR (sub (t + 1) (base ++ D0)) fun t2 out2 => pL T sub ops f t2 (out2 ++ [sg (T.1 t)]) := if_pos hk
      rw [eL] at h
      cases hsub : sub (t + 1) (base ++ D0) with
      | inr e =>
        rw [hsub] at h
        cases h
      | inl q =>
        obtain ⟨t3, out3⟩ := q
        obtain ⟨D, e, d1, d2⟩ := hs _ _ _ _ hsub
        rw [hsub] at h
        have h : pL T sub ops f t3 (out3 ++ [sg (T.1 t)]) = .inl (t2, out2) := h
        rw [e, List.append_assoc, List.append_assoc, ← List.append_assoc D0] at h
        exact ou_L hops hs t0 base f t3 (D0 ++ D ++ [sg (T.1 t)]) t2 out2 (rp_bin (hops _ hk) h1 d1) (by simp only [List.length_append, List.length_cons, List.length_nil]; omega) h
    · have eL : pL T sub ops (f + 1) t (base ++ D0) = .inl (t, base ++ D0) := if_neg hk
      rw [eL] at h
      cases h
      exact ⟨D0, rfl, h1, h2⟩
theorem ou_bin {T : Tk} {sub : Nat → List Nat → Res} {ops : Nat → Bool} (hops : ∀ k, ops k = true → isOp k = true) (hs : Ou sub) : Ou (pBin T sub ops) := by
  intro t out t2 out2 h
  unfold pBin at h
  cases hsub : sub t out with
  | inr e =>
    rw [hsub] at h
    cases h
  | inl q =>
    obtain ⟨t3, out3⟩ := q
    obtain ⟨D, e, d1, d2⟩ := hs _ _ _ _ hsub
    rw [hsub] at h
    have h : pL T sub ops 160 t3 out3 = .inl (t2, out2) := h
    rw [e] at h
    exact ou_L hops hs t out 160 t3 D t2 out2 d1 d2 h
theorem ou_pre {T : Tk} {s c : Nat} {sub : Nat → Nat → List Nat → Res} {o : Nat} (hc : c = 13 ∨ c = 19) (hs : ∀ o', Ou (sub o')) : Ou (pPre T s c sub o) := by
  intro t out t2 out2 h
  unfold pPre at h
  generalize pO T s (5 - o) t = n at h
  cases hsub : sub (o + n) (t + n) out with
  | inr e =>
    rw [hsub] at h
    cases h
  | inl q =>
    obtain ⟨t3, out3⟩ := q
    obtain ⟨D, e, d1, d2⟩ := hs _ _ _ _ _ hsub
    rw [hsub] at h
    cases h
    exact ⟨D ++ List.replicate n c, by rw [e, List.append_assoc], rp_uns hc d1 n, by rw [List.length_append, List.length_replicate]; omega⟩
theorem ou_cmp {T : Tk} {rc : Nat → Nat → List Nat → Res} {o : Nat} (hs : Ou (pSum T rc o)) : Ou (pCmp T rc o) := by
  intro t out t2 out2 h
  unfold pCmp at h
  cases hsub : pSum T rc o t out with
  | inr e =>
    rw [hsub] at h
    cases h
  | inl q =>
    obtain ⟨t3, out3⟩ := q
    obtain ⟨D, e, d1, d2⟩ := hs _ _ _ _ hsub
    rw [hsub] at h
    have h : (if T.1 t3 = 60 ∨ T.1 t3 = 61 then bR (pSum T rc o (t3 + 1) out3) fun t3' out3' => .inl (t3', out3' ++ [sg (T.1 t3)]) else .inl (t3, out3) : Res) = .inl (t2, out2) := h
    by_cases hk : T.1 t3 = 60 ∨ T.1 t3 = 61
    · rw [if_pos hk] at h
      cases hsub2 : pSum T rc o (t3 + 1) out3 with
      | inr e =>
        rw [hsub2] at h
        cases h
      | inl q =>
        obtain ⟨t4, out4⟩ := q
        obtain ⟨D', e', d1', d2'⟩ := hs _ _ _ _ hsub2
        rw [hsub2] at h
        cases h
        refine ⟨D ++ D' ++ [sg (T.1 t3)], by rw [e', e, List.append_assoc, List.append_assoc, List.append_assoc], rp_bin (decide_eq_true (by omega)) d1 d1', by simp only [List.length_append, List.length_cons, List.length_nil]; omega⟩
    · rw [if_neg hk] at h
      cases h
      exact ⟨D, e, d1, d2⟩
theorem ou_P {T : Tk} {rc : Nat → Nat → List Nat → Res} (hV : ∀ t, T.1 t = 2 → T.2 t < 10000) (hs : ∀ o', Ou (rc o')) (o : Nat) : Ou (pP T rc o) := by
  intro t out t2 out2 h
  unfold pP at h
  by_cases k2 : T.1 t = 2
  · rw [if_pos k2] at h
    cases h
    exact ⟨_, rfl, rp_num (hV t k2), by show 1 + t ≤ t + 1; omega⟩
  rw [if_neg k2] at h
  by_cases k16 : 16 ≤ T.1 t ∧ T.1 t ≤ 21
  · rw [if_pos k16] at h
    cases h
    exact ⟨_, rfl, rp_nam (by omega), by show 1 + t ≤ t + 1; omega⟩
  rw [if_neg k16] at h
  by_cases k40 : T.1 t = 40 ∧ o < 5
  · rw [if_pos k40] at h
    cases hsub : rc (o + 1) (t + 1) out with
    | inr e =>
      rw [hsub] at h
      cases h
    | inl q =>
      obtain ⟨t3, out3⟩ := q
      obtain ⟨D, e, d1, d2⟩ := hs _ _ _ _ _ hsub
      rw [hsub] at h
      have h : (if T.1 t3 = 41 then .inl (t3 + 1, out3) else .inr t3 : Res) = .inl (t2, out2) := h
      by_cases k41 : T.1 t3 = 41
      · rw [if_pos k41] at h
        cases h
        exact ⟨D, e, d1, by omega⟩
      · rw [if_neg k41] at h
        cases h
  · rw [if_neg k40] at h
    cases h
theorem ou_or {T : Tk} (hV : ∀ t, T.1 t = 2 → T.2 t < 10000) : ∀ d o, Ou (pOr T d o)
  | 0, _ => fun _ _ _ _ h => by cases h
  | d + 1, o => by
    have h7 : ∀ o', Ou (pOne T (pOr T d) o') := fun o' => ou_pre (Or.inr rfl) (ou_P hV (ou_or hV d))
    have h6 : ∀ o', Ou (pTerm T (pOr T d) o') := fun o' => ou_bin (fun k h => ((ops_6 k).mp h).1) (h7 o')
    have h5 : ∀ o', Ou (pSum T (pOr T d) o') := fun o' => ou_bin (fun k h => ((ops_5 k).mp h).1) (h6 o')
    have h3 : Ou (pNot T (pOr T d) o) := ou_pre (Or.inl rfl) (fun o' => ou_cmp (h5 o'))
    have h2 : Ou (pAnd T (pOr T d) o) := ou_bin (fun k h => ((ops_2 k).mp h).1) h3
    exact ou_bin (fun k h => ((ops_1 k).mp h).1) h2
theorem ou_E {T : Tk} (hV : ∀ t, T.1 t = 2 → T.2 t < 10000) : ∀ t out t2 out2, pE T t out = .inl (t2, out2) → ∃ D, out2 = out ++ D ∧ rp D ∧ D.length + t + 1 ≤ t2 := by
  intro t out t2 out2 h
  unfold pE at h
  cases hsub : pOr T 7 0 t out with
  | inr e =>
    rw [hsub] at h
    cases h
  | inl q =>
    obtain ⟨t3, out3⟩ := q
    obtain ⟨D, e, d1, d2⟩ := ou_or hV 7 0 _ _ _ _ hsub
    rw [hsub] at h
    have h : (if T.1 t3 = 59 then .inl (t3 + 1, out3) else .inr t3 : Res) = .inl (t2, out2) := h
    by_cases k59 : T.1 t3 = 59
    · rw [if_pos k59] at h
      cases h
      exact ⟨D, e, d1, by omega⟩
    · rw [if_neg k59] at h
      cases h
theorem wfs_l {code : Nat → Int32} : ∀ (D : List Nat) (i h : Nat), (∀ j, j < D.length → code (i + j) = nI (D.getD j 0)) → nsl D h → hsl D h = 1 → wfs code D.length i h
  | [], _, _, _, _, h2 => h2
  | x :: D, i, h, hc, h1, h2 => by
    have e : code i = nI x := hc 0 (Nat.zero_lt_succ _)
    refine ⟨by rw [e]; exact h1.1, by rw [e]; exact h1.2.1, ?_⟩
    rw [e]
    exact wfs_l D (i + 1) (hst (nI x) h) (fun j hj => by
      have := hc (j + 1) (Nat.succ_lt_succ hj)
      rw [show i + 1 + j = i + (j + 1) by omega]
      exact this) h1.2.2 h2
