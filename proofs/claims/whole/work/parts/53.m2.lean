/-! LOOPS: a counter from s on, N rounds -/
theorem loop0 {St R : Type} (mk : St → Hp) (B : Nat → Hp → Int32 → Option R) (L : (Hp → Int32 → Option R) → Hp → Int32 → Option R) (hB : ∀ n, B (n + 1) = L (B n)) (s N : Nat) (Inv : Nat → St → Prop) (X : St → Option R) (hx : ∀ k J, Inv N J → L k (mk J) (nI (s + N)) = X J)
    (hs : ∀ k J j, j < N → Inv j J → ∃ J', Inv (j + 1) J' ∧ L k (mk J) (nI (s + j)) = k (mk J') (nI (s + j + 1))) (J : St) (h0 : Inv 0 J) (n : Nat) (hn : N < n) : ∃ J', Inv N J' ∧ B n (mk J) (nI s) = X J' := by
  have key : ∀ (d j n : Nat) (J : St), j + d = N → d < n → Inv j J → ∃ J', Inv N J' ∧ B n (mk J) (nI (s + j)) = X J' := by
    intro d
    induction d with
    | zero =>
      intro j n J hj hn hi
      obtain ⟨n, rfl⟩ : ∃ q, n = q + 1 := ⟨n - 1, by omega⟩
      obtain rfl : j = N := by omega
      exact ⟨J, hi, by rw [hB]; exact hx _ J hi⟩
    | succ d ih =>
      intro j n J hj hn hi
      obtain ⟨n, rfl⟩ : ∃ q, n = q + 1 := ⟨n - 1, by omega⟩
      obtain ⟨J1, h1, e1⟩ := hs (B n) J j (by omega) hi
      obtain ⟨J2, h2, e2⟩ := ih (j + 1) n J1 (by omega) (by omega) h1
      exact ⟨J2, h2, by rw [hB, e1]; exact e2⟩
  exact key N 0 n J (by omega) hn h0
theorem loop1 {St α R : Type} (mk : St → Hp) (B : Nat → Hp → α → Int32 → Option R) (L : (Hp → α → Int32 → Option R) → Hp → α → Int32 → Option R) (hB : ∀ n, B (n + 1) = L (B n)) (s N : Nat) (f : Nat → α → α) (a0 : α) (Inv : Nat → St → Prop) (X : α → St → Option R) (hx : ∀ k J, Inv N J → L k (mk J) (fold f N a0) (nI (s + N)) = X (fold f N a0) J)
    (hs : ∀ k J j, j < N → Inv j J → ∃ J', Inv (j + 1) J' ∧ L k (mk J) (fold f j a0) (nI (s + j)) = k (mk J') (f j (fold f j a0)) (nI (s + j + 1))) (J : St) (h0 : Inv 0 J) (n : Nat) (hn : N < n) : ∃ J', Inv N J' ∧ B n (mk J) a0 (nI s) = X (fold f N a0) J' := by
  have key : ∀ (d j n : Nat) (J : St), j + d = N → d < n → Inv j J → ∃ J', Inv N J' ∧ B n (mk J) (fold f j a0) (nI (s + j)) = X (fold f N a0) J' := by
    intro d
    induction d with
    | zero =>
      intro j n J hj hn hi
      obtain ⟨n, rfl⟩ : ∃ q, n = q + 1 := ⟨n - 1, by omega⟩
      obtain rfl : j = N := by omega
      exact ⟨J, hi, by rw [hB]; exact hx _ J hi⟩
    | succ d ih =>
      intro j n J hj hn hi
      obtain ⟨n, rfl⟩ : ∃ q, n = q + 1 := ⟨n - 1, by omega⟩
      obtain ⟨J1, h1, e1⟩ := hs (B n) J j (by omega) hi
      obtain ⟨J2, h2, e2⟩ := ih (j + 1) n J1 (by omega) (by omega) h1
      exact ⟨J2, h2, by rw [hB, e1]; exact e2⟩
  exact key N 0 n J (by omega) hn h0
theorem loop2 {St α β R : Type} (mk : St → Hp) (B : Nat → Hp → α → β → Int32 → Option R) (L : (Hp → α → β → Int32 → Option R) → Hp → α → β → Int32 → Option R) (hB : ∀ n, B (n + 1) = L (B n)) (s N : Nat) (f : Nat → α × β → α × β) (a0 : α) (b0 : β) (Inv : Nat → St → Prop) (X : α × β → St → Option R) (hx : ∀ k J, Inv N J → L k (mk J) (fold f N (a0, b0)).1 (fold f N (a0, b0)).2 (nI (s + N)) = X (fold f N (a0, b0)) J)
    (hs : ∀ k J j, j < N → Inv j J → ∃ J', Inv (j + 1) J' ∧ L k (mk J) (fold f j (a0, b0)).1 (fold f j (a0, b0)).2 (nI (s + j)) = k (mk J') (f j (fold f j (a0, b0))).1 (f j (fold f j (a0, b0))).2 (nI (s + j + 1))) (J : St) (h0 : Inv 0 J) (n : Nat) (hn : N < n) : ∃ J', Inv N J' ∧ B n (mk J) a0 b0 (nI s) = X (fold f N (a0, b0)) J' := by
  obtain ⟨J', h1, h2⟩ := loop1 mk (fun n S (q : α × β) i => B n S q.1 q.2 i) (fun k S (q : α × β) i => L (fun S a b i => k S (a, b) i) S q.1 q.2 i) (fun n => by funext S q i; rw [hB]) s N f (a0, b0) Inv X (fun k J hi => hx _ J hi) (fun k J j hj hi => by
    obtain ⟨J', h1, h2⟩ := hs (fun S a b i => k S (a, b) i) J j hj hi
    exact ⟨J', h1, h2⟩) J h0 n hn
  exact ⟨J', h1, h2⟩
/-! the reference's says with its facts -/
theorem clamp_big {v lo : Int32} {p : Prop} [Decidable p] : clamp v lo (if p then 20 else 99) = if p then clamp v lo 20 else clamp v lo 99 := by
  by_cases h : p
  · rw [if_pos h, if_pos h]
  · rw [if_neg h, if_neg h]
theorem RM_P {J : Nat → Nat → Int32} {e : Ev} (h : RM J e) : J 0 0 = nI (vP e) ∧ vP e ≤ 6 := h.1
theorem RM_W {J : Nat → Nat → Int32} {e : Ev} (h : RM J e) : J 0 7 = nI (vW e) ∧ vW e ≤ 10 := h.2.1
theorem RM_day {J : Nat → Nat → Int32} {e : Ev} (h : RM J e) : J 0 8 = vDay e := h.2.2.1
theorem RM_p {J : Nat → Nat → Int32} {e : Ev} (h : RM J e) {p : Nat} (hp : p < vP e) : J 1 p = vKind e p ∧ J 2 p = vMore e p ∧ J 3 (2 * p) = vPride e p ∧ J 3 (2 * p + 1) = vName e p := h.2.2.2.1 p hp
theorem RM_k {J : Nat → Nat → Int32} {e : Ev} (h : RM J e) {k : Nat} (hk : k < vW e) : J 4 k = vDo e k ∧ J 5 k = vWt e k ∧ J 6 k = vSw e k := h.2.2.2.2.1 k hk
theorem RM_law {J : Nat → Nat → Int32} {e : Ev} (h : RM J e) : LawM J e := h.2.2.2.2.2.1
theorem RM_ok {J : Nat → Nat → Int32} {e : Ev} (h : RM J e) : okLaw e := h.2.2.2.2.2.2
theorem m_asksOf {J : Nat → Nat → Int32} {e : Ev} {part p k fu : Nat} (hR : RM J e) (hpart : part < 3) (hp : p < vP e) (hk : k < vW e) (hfu : 200 < fu) : ∃ J', sme [18, 19] J J' ∧ F_X8_asksOf fu (mkM J) 0 (nI part) (nI p) (nI k) = some (sSays e part p k, mkM J') := by
  have hP := (RM_P hR).2
  have hW := (RM_W hR).2
  obtain ⟨d1, d2, d3⟩ := RM_k hR hk
  obtain ⟨p1, p2, p3, p4⟩ := RM_p hR hp
  have hday := RM_day hR
  unfold F_X8_asksOf
  rw [M_r32, bind_some', M_r5, bind_some', M_g5 (by omega), bind_some', lit 0, M_p19 (by decide), bind_some', M_r32, bind_some', M_r4, bind_some', M_g4 (by omega), bind_some', m_bits (by omega), b2_some, lit 1, M_p19 (by decide), bind_some', M_r32, bind_some', M_r6, bind_some', M_g6 (by omega), bind_some', m_bits (by omega), b2_some, lit 2, M_p19 (by decide), bind_some', M_r32, bind_some', M_gI, bind_some', lit 3, M_p19 (by decide), bind_some', M_r32, bind_some', M_r3, bind_some', nI_mul, M_g3 (by omega), bind_some', lit 4, M_p19 (by decide), bind_some', M_r32, bind_some', M_r2, bind_some', M_g2 (by omega), bind_some', lit 5, M_p19 (by decide), bind_some', M_ob, bind_some']
  rw [up2_o (by decide), up2_o (by decide), up2_o (by decide), up2_o (by decide), up2_o (by decide), up2_o (by decide), up2_o (by decide), up2_o (by decide), up2_o (by decide), up2_o (by decide), up2_o (by decide), up2_o (by decide), up2_o (by decide), up2_o (by decide), up2_o (by decide), d1, d2, d3, hday, p2, p3]
  generalize hJ1 : up2 (up2 (up2 (up2 (up2 (up2 J 19 0 (vWt e k)) 19 1 (popc (vDo e k))) 19 2 (popc (vSw e k))) 19 3 (vDay e)) 19 4 (vPride e p)) 19 5 (vMore e p) = J1
  have hs1 : sme [18, 19] J J1 := by
    rw [← hJ1]
    exact sme_tr (sme_tr (sme_tr (sme_tr (sme_tr (sme_up (by decide)) (sme_up (by decide))) (sme_up (by decide))) (sme_up (by decide))) (sme_up (by decide))) (sme_up (by decide))
  have hf : ∀ i, i < 6 → J1 19 i = facts e p k i := by
    intro i hi
    rw [← hJ1]
    match i, hi with
    | 0, _ => rfl
    | 1, _ => rfl
    | 2, _ => rfl
    | 3, _ => rfl
    | 4, _ => rfl
    | 5, _ => rfl
  have hR1 := RM_sme hR hs1 (by decide)
  obtain ⟨J2, e2, hs2⟩ := m_says hpart (RM_law hR1) (RM_ok hR1) hf hfu
  rw [e2, b2_some]
  refine ⟨J2, sme_tr hs1 (sme_wk hs2 (by decide)), ?_⟩
  unfold B_X8_asksOf_95
  unfold sSays
  by_cases h0 : part = 0
  · subst h0
    rw [if_pos rfl, m_within, b2_some, if_pos rfl]
    rfl
  · rw [if_neg (fun q => h0 (nI_inj (by omega) (by decide) q)), m_within, b2_some, if_neg h0]
    rfl
theorem m_strokesOf {J : Nat → Nat → Int32} {e : Ev} {p k fu : Nat} (hR : RM J e) (hp : p < vP e) (hk : k < vW e) (hfu : 200 < fu) : ∃ J', sme [18, 19] J J' ∧ F_X8_strokesOf fu (mkM J) 0 (nI p) (nI k) = some (sStrokes e p k, mkM J') := by
  have hP := (RM_P hR).2
  have hW := (RM_W hR).2
  obtain ⟨d1, d2, d3⟩ := RM_k hR hk
  obtain ⟨p1, p2, p3, p4⟩ := RM_p hR hp
  unfold F_X8_strokesOf sStrokes
  rw [M_r1, bind_some', M_g1 (by omega), bind_some', p1]
  by_cases h5 : vKind e p = 5
  · rw [if_pos h5, if_pos h5, M_r5, bind_some', M_g5 (by omega), bind_some', M_r2, bind_some', M_g2 (by omega), bind_some', d2, p2]
    refine ⟨J, sme_rf, ?_⟩
    unfold B_X8_strokesOf_30
    by_cases hh : vWt e k ≤ vMore e p
    · rw [if_pos hh, if_pos hh]
    · rw [if_neg hh, if_neg hh]
  · obtain ⟨J1, hs1, e1⟩ := m_asksOf (part := 0) (fu := fu) hR (by decide) hp hk hfu
    have q1 : ∀ a, a < 10 → J1 a = J a := fun a ha => hs1 a (by simp; omega)
    rw [if_neg h5, if_neg h5, M_ob, bind_some', lit 0, e1, b2_some, M_r1, bind_some', M_g1 (by omega), bind_some', q1 1 (by decide), p1]
    refine ⟨J1, hs1, ?_⟩
    by_cases h1 : vKind e p = 1
    · rw [if_pos h1, if_pos h1, M_r2, bind_some', M_g2 (by omega), bind_some', q1 2 (by decide), p2]
    rw [if_neg h1, if_neg h1]
    by_cases h2 : vKind e p = 2
    · rw [if_pos h2, if_pos h2]
    rw [if_neg h2, if_neg h2]
    by_cases h3 : vKind e p = 3
    · rw [if_pos h3, if_pos h3, M_r2, bind_some', M_g2 (by omega), bind_some', q1 2 (by decide), p2]
    rw [if_neg h3, if_neg h3]
    by_cases h4 : vKind e p = 4
    · rw [if_pos h4, if_pos h4, M_r4, bind_some', M_g4 (by omega), bind_some', q1 4 (by decide), d1, m_bits (by omega), b2_some]
      unfold B_X8_strokesOf_120
      by_cases hh : popc (vDo e k) ≤ 1
      · rw [if_pos hh, if_pos hh]
      · rw [if_neg hh, if_neg hh]
    rw [if_neg h4, if_neg h4]
theorem m_doubtsOf {J : Nat → Nat → Int32} {e : Ev} {p k fu : Nat} {off : Int32} (hR : RM J e) (hp : p < vP e) (hk : k < vW e) (hfu : 200 < fu) : ∃ J', sme [18, 19] J J' ∧ F_X8_doubtsOf fu (mkM J) 0 (nI p) (nI k) off = some (sDoubts e p k off, mkM J') := by
  have hP := (RM_P hR).2
  obtain ⟨p1, p2, p3, p4⟩ := RM_p hR hp
  obtain ⟨J1, hs1, e1⟩ := m_asksOf (part := 1) (fu := fu) hR (by decide) hp hk hfu
  unfold F_X8_doubtsOf sDoubts B_X8_doubtsOf_55
  rw [M_ob, bind_some', lit 1, e1, b2_some, M_r1, bind_some', M_g1 (by omega), bind_some', hs1 1 (by decide), p1]
  refine ⟨J1, hs1, ?_⟩
  have h3 : ∀ {x y : Option (Int32 × Hp)}, (if (3 : Int32) ≤ off then x else y) = if off < 3 then y else x := by
    intro x y
    by_cases h : off < 3
    · rw [if_pos h, if_neg (by rw [le_I]; rw [lt_I] at h; omega)]
    · rw [if_neg h, if_pos (by rw [le_I]; rw [lt_I] at h; omega)]
  by_cases k2 : vKind e p = 2
  · rw [if_pos k2, if_pos k2, h3]
    by_cases hh : off < 3
    · rw [if_pos hh, if_pos hh]
    · rw [if_neg hh, if_neg hh]
  rw [if_neg k2, if_neg k2]
  by_cases k3 : vKind e p = 3
  · rw [if_pos k3, if_neg (by rw [k3]; decide), if_pos k3]
  rw [if_neg k3]
  by_cases k4 : vKind e p = 4
  · rw [if_pos k4, if_pos k4, h3]
    by_cases hh : off < 3
    · rw [if_pos hh, if_pos hh]
    · rw [if_neg hh, if_neg hh]
  rw [if_neg k4, if_neg k4, if_neg k3]
  by_cases k5 : vKind e p = 5
  · rw [if_pos k5, if_pos k5]
  · rw [if_neg k5, if_neg k5]
theorem m_paysOf {J : Nat → Nat → Int32} {e : Ev} {p k fu : Nat} (hR : RM J e) (hp : p < vP e) (hk : k < vW e) (hfu : 200 < fu) : ∃ J', sme [18, 19] J J' ∧ F_X8_paysOf fu (mkM J) 0 (nI p) (nI k) = some (sPays e p k, mkM J') := by
  have hP := (RM_P hR).2
  obtain ⟨p1, p2, p3, p4⟩ := RM_p hR hp
  obtain ⟨J1, hs1, e1⟩ := m_asksOf (part := 2) (fu := fu) hR (by decide) hp hk hfu
  unfold F_X8_paysOf sPays B_X8_paysOf_28 B_X8_paysOf_56
  rw [M_ob, bind_some', lit 2, e1, b2_some, M_r1, bind_some', M_g1 (by omega), bind_some', hs1 1 (by decide), p1]
  refine ⟨J1, hs1, ?_⟩
  by_cases k1 : vKind e p = 1
  · rw [if_pos k1, if_pos k1]
  rw [if_neg k1, if_neg k1, bind_some', M_g1 (by omega), bind_some', hs1 1 (by decide), p1]
  by_cases k3 : vKind e p = 3
  · rw [if_pos k3, if_pos k3]
  rw [if_neg k3, if_neg k3, bind_some', M_g1 (by omega), bind_some', hs1 1 (by decide), p1]
  by_cases k4 : vKind e p = 4
  · rw [if_pos k4, if_pos k4, M_r2, bind_some', M_g2 (by omega), bind_some', hs1 2 (by decide), p2]
  · rw [if_neg k4, if_neg k4]
