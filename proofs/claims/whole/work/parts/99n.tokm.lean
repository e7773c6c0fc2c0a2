/-! THE REFERENCE'S TOKENS -/
def WM (J : Nat → Nat → Int32) : Prop := ∀ i, i < 96 → J 16 i = wdM.getD i 0
def BM (J : Nat → Nat → Int32) (b : Nat → Nat) (n : Nat) : Prop := n ≤ 160 ∧ J 0 10 = nI n ∧ ∀ i, i < n → J 7 i = nI (b i) ∧ b i < 256
theorem m_inL {S : Hp} {x : Nat} (hx : x < 256) : F_X8_in S (nI x) 97 122 = some (bI (ltB x), S) := by
  unfold F_X8_in B_X8_in_14 B_X8_in_15 ltB
  by_cases h1 : x < 97
  · rw [if_pos (show nI x < 97 by rw [lit 97]; exact nI_lt h1 (by decide)), decide_eq_false (by omega)]; rfl
  rw [if_neg (show ¬ nI x < 97 by rw [lit 97]; exact nI_nlt (by omega) (by omega))]
  by_cases h2 : 122 < x
  · rw [if_pos (show 122 < nI x by rw [lit 122]; exact nI_lt h2 (by omega)), decide_eq_false (by omega)]; rfl
  · rw [if_neg (show ¬ 122 < nI x by rw [lit 122]; exact nI_nlt (by omega) (by decide)), decide_eq_true (by omega)]; rfl
theorem m_inD {S : Hp} {x : Nat} (hx : x < 256) : F_X8_in S (nI x) 48 57 = some (bI (dgB x), S) := by
  unfold F_X8_in B_X8_in_14 B_X8_in_15 dgB
  by_cases h1 : x < 48
  · rw [if_pos (show nI x < 48 by rw [lit 48]; exact nI_lt h1 (by decide)), decide_eq_false (by omega)]; rfl
  rw [if_neg (show ¬ nI x < 48 by rw [lit 48]; exact nI_nlt (by omega) (by omega))]
  by_cases h2 : 57 < x
  · rw [if_pos (show 57 < nI x by rw [lit 57]; exact nI_lt h2 (by omega)), decide_eq_false (by omega)]; rfl
  · rw [if_neg (show ¬ 57 < nI x by rw [lit 57]; exact nI_nlt (by omega) (by decide)), decide_eq_true (by omega)]; rfl
theorem m7 {J : Nat → Nat → Int32} {b : Nat → Nat} {n i : Nat} (h : BM J b n) (hi : i < n) : aG (mkM J) (some 7) (nI i) = some (nI (b i)) := by
  have hn := h.1
  rw [M_g7 (by omega), (h.2.2 i hi).1]
/-! words, padded -/
def tbN (b : Nat → Nat) (s e j : Nat) : Nat := if e ≤ s + j then 32 else b (s + j)
theorem wd_1 : ∀ x, x < 12 → ∀ j, j < 8 → wdM.getD (8 * x + j) 0 = if j < zlen.getD (prW x - 9) 0 then (zbyt.getD (prW x - 9) []).getD j 0 else 32 := by decide +kernel
theorem wd_2 : ∀ x, x < 12 → zlen.getD (prW x - 9) 0 ≤ 8 := by decide +kernel
theorem wd_3 : ∀ x, x < 12 → ∀ j, j < zlen.getD (prW x - 9) 0 → (zbyt.getD (prW x - 9) []).getD j 0 ≠ 32 := by decide +kernel
theorem wd_mt {b : Nat → Nat} {s e x : Nat} (hx : x < 12) (hl : ∀ i, s ≤ i → i < e → ltB (b i) = true) (hb : ∀ i, s ≤ i → i < e → b i < 256) : mt b s e (prW x - 9) = decide (e - s ≤ 8 ∧ ∀ j : Nat, j < 8 → wdM.getD (8 * x + j) 0 = nI (tbN b s e j)) := by
  have h2 := wd_2 x hx
  apply decide_eq_decide.mpr
  constructor
  · rintro ⟨g1, g2⟩
    refine ⟨by omega, fun j hj => ?_⟩
    rw [wd_1 x hx j hj]
    unfold tbN
    by_cases h : j < zlen.getD (prW x - 9) 0
    · rw [if_pos h, if_neg (by omega), g2 j h]
    · rw [if_neg h, if_pos (by omega)]
      rfl
  · rintro ⟨g1, g2⟩
    have el : e - s = zlen.getD (prW x - 9) 0 := by
      rcases Nat.lt_trichotomy (e - s) (zlen.getD (prW x - 9) 0) with h | h | h
      · have g := g2 (e - s) (by omega)
        rw [wd_1 x hx (e - s) (by omega), if_pos h] at g
        unfold tbN at g
        rw [if_pos (by omega)] at g
        exact absurd g (wd_3 x hx (e - s) h)
      · exact h
      · have g := g2 (zlen.getD (prW x - 9) 0) (by omega)
        rw [wd_1 x hx _ (by omega), if_neg (by omega)] at g
        unfold tbN at g
        rw [if_neg (by omega)] at g
        have h3 := of_decide_eq_true (hl (s + zlen.getD (prW x - 9) 0) (by omega) (by omega))
        have h4 := nI_inj (a := 32) (by decide) (by omega) g
        omega
    refine ⟨el, fun j hj => ?_⟩
    have g := g2 j (by omega)
    rw [wd_1 x hx j (by omega), if_pos hj] at g
    unfold tbN at g
    rw [if_neg (by omega)] at g
    exact g.symm
theorem m_wL {J : Nat → Nat → Int32} {b : Nat → Nat} {n s e x fu : Nat} {k2 : Hp → Int32 → Option (Int32 × Hp)} (h : BM J b n) (hW : WM J) (hx : x < 12) (hs : s ≤ e) (he : e ≤ n) : ∀ d j m, j + d = 8 → d < m → B_X8_wordFrom_26 k2 fu 0 (nI s) (nI e) (nI x) m (mkM J) 1 (nI j) = (if decide (∀ i : Nat, i < 8 → j ≤ i → wdM.getD (8 * x + i) 0 = nI (tbN b s e i)) = true then some (nI x, mkM J) else k2 (mkM J) (nI (x + 1))) := by
  have hn := h.1
  intro d
  induction d with
  | zero =>
    intro j m hj hm
    obtain ⟨m, rfl⟩ : ∃ z, m = z + 1 := ⟨m - 1, by omega⟩
    show L_X8_wordFrom_26 _ _ _ _ _ _ _ _ _ _ = _
    unfold L_X8_wordFrom_26 B_X8_wordFrom_88
    rw [if_pos (show (8 : Int32) ≤ nI j by rw [lit 8]; exact nI_le (by omega) (by omega)), if_neg (show ¬ (1 : Int32) = 0 by decide), if_pos (decide_eq_true (fun i h1 h2 => by omega))]
  | succ d ih =>
    intro j m hj hm
    obtain ⟨m, rfl⟩ : ∃ z, m = z + 1 := ⟨m - 1, by omega⟩
    show L_X8_wordFrom_26 _ _ _ _ _ _ _ _ _ _ = _
    unfold L_X8_wordFrom_26 B_X8_wordFrom_72 B_X8_wordFrom_80
    rw [if_neg (show ¬ (8 : Int32) ≤ nI j by rw [lit 8]; exact nI_ge (by omega) (by decide)), if_neg (show ¬ (1 : Int32) = 0 by decide), M_r26, bind_some', lit 8, nI_mul, nI_add, M_g16 (by omega), bind_some', hW _ (by omega), nI_add, nI_1]
    have key : (if wdM.getD (8 * x + j) 0 = nI (tbN b s e j) then B_X8_wordFrom_26 k2 fu 0 (nI s) (nI e) (nI x) m (mkM J) 1 (nI (j + 1)) else B_X8_wordFrom_26 k2 fu 0 (nI s) (nI e) (nI x) m (mkM J) 0 (nI (j + 1))) = (if decide (∀ i : Nat, i < 8 → j ≤ i → wdM.getD (8 * x + i) 0 = nI (tbN b s e i)) = true then some (nI x, mkM J) else k2 (mkM J) (nI (x + 1))) := by
      by_cases g : wdM.getD (8 * x + j) 0 = nI (tbN b s e j)
      · rw [if_pos g, ih (j + 1) m (by omega) (by omega)]
        have : decide (∀ i : Nat, i < 8 → j + 1 ≤ i → wdM.getD (8 * x + i) 0 = nI (tbN b s e i)) = decide (∀ i : Nat, i < 8 → j ≤ i → wdM.getD (8 * x + i) 0 = nI (tbN b s e i)) := by
          apply decide_eq_decide.mpr
          constructor
          · intro q i h1 h2
            by_cases ei : i = j
            · rw [ei]; exact g
            · exact q i h1 (by omega)
          · intro q i h1 h2
            exact q i h1 (by omega)
        rw [this]
      · obtain ⟨m, rfl⟩ : ∃ z, m = z + 1 := ⟨m - 1, by omega⟩
        rw [if_neg g, decide_eq_false (fun q => g (q j (by omega) (Nat.le_refl _))), if_neg (by decide)]
        show L_X8_wordFrom_26 _ _ _ _ _ _ _ _ _ _ = _
        unfold L_X8_wordFrom_26 B_X8_wordFrom_88
        rw [if_pos rfl, if_pos rfl, nI_1]
        split <;> rfl
    by_cases c : e ≤ s + j
    · rw [if_pos (nI_le c (by omega))]
      have et : tbN b s e j = 32 := if_pos c
      rw [et] at key
      exact key
    · have et : tbN b s e j = b (s + j) := if_neg c
      rw [if_neg (nI_ge (show s + j < e by omega) (by omega)), M_r9, bind_some', m7 h (by omega), bind_some']
      rw [et] at key
      exact key
theorem m_word {J : Nat → Nat → Int32} {b : Nat → Nat} {n s e fu : Nat} (h : BM J b n) (hW : WM J) (hs : s ≤ e) (he : e ≤ n) (hl : ∀ i, s ≤ i → i < e → ltB (b i) = true) (hfu : 200 < fu) : ∀ f x m, x + f = 12 → f < m → B_X8_wordFrom_2 fu 0 (nI s) (nI e) m (mkM J) (nI x) = some (nI (rwf (fun x => mt b s e (prW x - 9)) f x), mkM J) := by
  have hn := h.1
  intro f
  induction f with
  | zero =>
    intro x m hx hm
    obtain ⟨m, rfl⟩ : ∃ z, m = z + 1 := ⟨m - 1, by omega⟩
    obtain rfl : x = 12 := by omega
    show L_X8_wordFrom_2 _ _ _ _ _ _ _ = _
    unfold L_X8_wordFrom_2
    rw [if_pos (show (12 : Int32) ≤ nI 12 by decide)]
    rfl
  | succ f ih =>
    intro x m hx hm
    obtain ⟨m, rfl⟩ : ∃ z, m = z + 1 := ⟨m - 1, by omega⟩
    have hm8 := wd_mt (b := b) (s := s) (e := e) (show x < 12 by omega) hl (fun i h1 h2 => (h.2.2 i (by omega)).2)
    have nxt := ih (x + 1) m (by omega) (by omega)
    show L_X8_wordFrom_2 _ _ _ _ _ _ _ = some (nI (if mt b s e (prW x - 9) = true then x else rwf (fun x => mt b s e (prW x - 9)) f (x + 1)), _)
    unfold L_X8_wordFrom_2 B_X8_wordFrom_21
    rw [if_neg (show ¬ (12 : Int32) ≤ nI x by rw [lit 12]; exact nI_ge (by omega) (by decide)), pk_sub hs, hm8]
    by_cases c : e - s ≤ 8
    · have g : B_X8_wordFrom_26 (B_X8_wordFrom_2 fu 0 (nI s) (nI e) m) fu 0 (nI s) (nI e) (nI x) fu (mkM J) 1 0 = _ := m_wL (s := s) (e := e) h hW (show x < 12 by omega) hs he 8 0 fu rfl (by omega)
      rw [if_neg (show ¬ (8 : Int32) < nI (e - s) by rw [lit 8]; exact nI_nlt c (by decide)), g]
      have : decide (∀ i : Nat, i < 8 → 0 ≤ i → wdM.getD (8 * x + i) 0 = nI (tbN b s e i)) = decide (e - s ≤ 8 ∧ ∀ j : Nat, j < 8 → wdM.getD (8 * x + j) 0 = nI (tbN b s e j)) := by
        apply decide_eq_decide.mpr
        exact ⟨fun q => ⟨c, fun j h1 => q j h1 (Nat.zero_le _)⟩, fun q j h1 _ => q.2 j h1⟩
      rw [this]
      cases decide (e - s ≤ 8 ∧ ∀ j : Nat, j < 8 → wdM.getD (8 * x + j) 0 = nI (tbN b s e j)) with
      | true => rw [if_pos rfl, if_pos rfl]
      | false => rw [if_neg (by decide), if_neg (by decide)]; exact nxt
    · obtain ⟨fu, rfl⟩ : ∃ z, fu = z + 1 := ⟨fu - 1, by omega⟩
      rw [if_pos (show (8 : Int32) < nI (e - s) by rw [lit 8]; exact nI_lt (by omega) (by omega)), decide_eq_false (fun q => c q.1), if_neg (show ¬ false = true by decide)]
      show L_X8_wordFrom_26 _ _ _ _ _ _ _ _ _ _ = _
      unfold L_X8_wordFrom_26 B_X8_wordFrom_88
      rw [if_neg (show ¬ (8 : Int32) ≤ 0 by decide), if_pos rfl, if_pos rfl, nI_1]
      exact nxt
/-! from a place on -/
def FN (ex : List Nat) (J J' : Nat → Nat → Int32) : Prop := (∀ a, a ≠ 0 → J' a = J a) ∧ ∀ j, j ∉ ex → J' 0 j = J 0 j
theorem FN_rf {ex : List Nat} {J : Nat → Nat → Int32} : FN ex J J := ⟨fun _ _ => rfl, fun _ _ => rfl⟩
theorem FN_tr {ex : List Nat} {J J' J'' : Nat → Nat → Int32} (h : FN ex J J') (g : FN ex J' J'') : FN ex J J'' := ⟨fun a ha => (g.1 a ha).trans (h.1 a ha), fun j hj => (g.2 j hj).trans (h.2 j hj)⟩
theorem FN_wk {ex ex' : List Nat} {J J' : Nat → Nat → Int32} (h : FN ex J J') (hs : ∀ a ∈ ex, a ∈ ex') : FN ex' J J' := ⟨h.1, fun j hj => h.2 j (fun q => hj (hs j q))⟩
theorem FN_0 {ex : List Nat} {J : Nat → Nat → Int32} {j : Nat} {v : Int32} (hj : j ∈ ex) : FN ex J (up2 J 0 j v) := ⟨fun a h1 => funext fun b => up2_o h1, fun i hi => up2_j (fun q => hi (q ▸ hj))⟩
theorem BM_s {ex : List Nat} {J J' : Nat → Nat → Int32} {b : Nat → Nat} {n : Nat} (h : BM J b n) (hs : FN ex J J') (he : 10 ∉ ex) : BM J' b n := by
  unfold BM
  rw [hs.1 7 (by decide), hs.2 10 he]
  exact h
theorem WM_s {ex : List Nat} {J J' : Nat → Nat → Int32} (h : WM J) (hs : FN ex J J') : WM J' := by
  unfold WM
  rw [hs.1 16 (by decide)]
  exact h
theorem m_skip {b : Nat → Nat} {n e fu : Nat} (he : e ≤ n) (hend : e < n → blB (b e) = false) : ∀ d j m (J : Nat → Nat → Int32), e = j + d → d < m → BM J b n → J 0 22 = nI j → (∀ i, j ≤ i → i < e → blB (b i) = true) → ∃ J', FN [22] J J' ∧ J' 0 22 = nI e ∧ B_X8_next_0 fu 0 m (mkM J) = B_X8_next_52 fu 0 (mkM J') := by
  intro d
  induction d with
  | zero =>
    intro j m J hj hm hB h22 hb
    obtain ⟨m, rfl⟩ : ∃ z, m = z + 1 := ⟨m - 1, by omega⟩
    obtain rfl : e = j := by omega
    have hn := hB.1
    refine ⟨J, FN_rf, h22, ?_⟩
    show L_X8_next_0 _ _ _ _ = _
    unfold L_X8_next_0
    rw [M_gI, bind_some', M_gI, bind_some', hB.2.1, h22]
    by_cases c : e = n
    · rw [if_pos (nI_le (by omega) (by omega))]
    · have hx := (hB.2.2 e (by omega)).2
      have hne := of_decide_eq_false (hend (by omega))
      rw [if_neg (nI_ge (show e < n by omega) (by omega)), M_r9, bind_some', bind_some', m7 hB (by omega), bind_some', if_neg (show ¬ nI (b e) = 32 from fun q => hne (Or.inl (nI_inj (by omega) (by decide) q))), bind_some', bind_some', m7 hB (by omega), bind_some', if_neg (show ¬ nI (b e) = 10 from fun q => hne (Or.inr (nI_inj (by omega) (by decide) q)))]
  | succ d ih =>
    intro j m J hj hm hB h22 hb
    obtain ⟨m, rfl⟩ : ∃ z, m = z + 1 := ⟨m - 1, by omega⟩
    have hn := hB.1
    have hx := (hB.2.2 j (by omega)).2
    have hbl := of_decide_eq_true (hb j (Nat.le_refl _) (by omega))
    have s0 : FN [22] J (up2 J 0 22 (nI (j + 1))) := FN_0 (by decide)
    obtain ⟨J', g1, g2, g3⟩ := ih (j + 1) m (up2 J 0 22 (nI (j + 1))) (by omega) (by omega) (BM_s hB s0 (by decide)) up2_s (fun i h1 h2 => hb i (by omega) h2)
    refine ⟨J', FN_tr s0 g1, g2, ?_⟩
    show L_X8_next_0 _ _ _ _ = _
    unfold L_X8_next_0 B_X8_next_39
    rw [M_gI, bind_some', M_gI, bind_some', hB.2.1, h22, if_neg (nI_ge (show j < n by omega) (by omega)), M_r9, bind_some', bind_some', m7 hB (by omega), bind_some', bind_some', bind_some', bind_some', m7 hB (by omega), bind_some', nI_1, M_pI, bind_some']
    by_cases h32 : b j = 32
    · rw [if_pos (show nI (b j) = 32 by rw [h32]; rfl)]
      exact g3
    · rw [if_neg (show ¬ nI (b j) = 32 from fun q => h32 (nI_inj (by omega) (by decide) q)), if_pos (show nI (b j) = 10 by rw [hbl.resolve_left h32]; rfl)]
      exact g3
theorem m_run {b : Nat → Nat} {n e fu : Nat} (he : e ≤ n) (hend : e < n → ltB (b e) = false) : ∀ d j m (J : Nat → Nat → Int32), e = j + d → d < m → BM J b n → J 0 22 = nI j → (∀ i, j ≤ i → i < e → ltB (b i) = true) → ∃ J', FN [22] J J' ∧ J' 0 22 = nI e ∧ B_X8_next_103 fu 0 m (mkM J) = B_X8_next_146 fu 0 (mkM J') := by
  intro d
  induction d with
  | zero =>
    intro j m J hj hm hB h22 hb
    obtain ⟨m, rfl⟩ : ∃ z, m = z + 1 := ⟨m - 1, by omega⟩
    obtain rfl : e = j := by omega
    have hn := hB.1
    refine ⟨J, FN_rf, h22, ?_⟩
    show L_X8_next_103 _ _ _ _ = _
    unfold L_X8_next_103
    rw [M_gI, bind_some', M_gI, bind_some', hB.2.1, h22]
    by_cases c : e = n
    · rw [if_pos (nI_le (by omega) (by omega))]
    · have hx := (hB.2.2 e (by omega)).2
      rw [if_neg (nI_ge (show e < n by omega) (by omega)), M_r9, bind_some', bind_some', m7 hB (by omega), bind_some', m_inL hx, b2_some, hend (by omega), if_pos bIf]
  | succ d ih =>
    intro j m J hj hm hB h22 hb
    obtain ⟨m, rfl⟩ : ∃ z, m = z + 1 := ⟨m - 1, by omega⟩
    have hn := hB.1
    have hx := (hB.2.2 j (by omega)).2
    have s0 : FN [22] J (up2 J 0 22 (nI (j + 1))) := FN_0 (by decide)
    obtain ⟨J', g1, g2, g3⟩ := ih (j + 1) m (up2 J 0 22 (nI (j + 1))) (by omega) (by omega) (BM_s hB s0 (by decide)) up2_s (fun i h1 h2 => hb i (by omega) h2)
    refine ⟨J', FN_tr s0 g1, g2, ?_⟩
    show L_X8_next_103 _ _ _ _ = _
    unfold L_X8_next_103
    rw [M_gI, bind_some', M_gI, bind_some', hB.2.1, h22, if_neg (nI_ge (show j < n by omega) (by omega)), M_r9, bind_some', bind_some', m7 hB (by omega), bind_some', m_inL hx, b2_some, hb j (Nat.le_refl _) (by omega), if_neg bIt, M_gI, bind_some', h22, nI_1, M_pI, bind_some']
    exact g3
theorem m_dig {b : Nat → Nat} {n s e fu : Nat} (he : e ≤ n) (hend : e < n → dgB (b e) = false) : ∀ d k m (J : Nat → Nat → Int32), e = s + k + d → d < m → BM J b n → J 0 22 = nI (s + k) → (k ≤ 4 → J 0 25 = nI (nv b s k)) → (∀ i, s ≤ i → i < e → dgB (b i) = true) → ∃ J', FN [22, 25] J J' ∧ J' 0 22 = nI e ∧ (e - s ≤ 4 → J' 0 25 = nI (nv b s (e - s))) ∧ B_X8_next_230 fu 0 m (mkM J) (nI k) = B_X8_next_309 fu 0 (mkM J') (nI (e - s)) := by
  intro d
  induction d with
  | zero =>
    intro k m J hj hm hB h22 h25 hb
    obtain ⟨m, rfl⟩ : ∃ z, m = z + 1 := ⟨m - 1, by omega⟩
    have ek : e - s = k := by omega
    have hn := hB.1
    refine ⟨J, FN_rf, by rw [h22]; exact congrArg nI (by omega), fun h => by rw [ek] at h ⊢; exact h25 h, ?_⟩
    rw [ek]
    show L_X8_next_230 _ _ _ _ _ = _
    unfold L_X8_next_230
    rw [M_gI, bind_some', M_gI, bind_some', hB.2.1, h22]
    by_cases c : e = n
    · rw [if_pos (nI_le (by omega) (by omega))]
    · have hx := (hB.2.2 (s + k) (by omega)).2
      have hd := hend (by omega)
      rw [show e = s + k by omega] at hd
      rw [if_neg (nI_ge (show s + k < n by omega) (by omega)), M_r9, bind_some', bind_some', m7 hB (by omega), bind_some', m_inD hx, b2_some, hd, if_pos bIf]
  | succ d ih =>
    intro k m J hj hm hB h22 h25 hb
    obtain ⟨m, rfl⟩ : ∃ z, m = z + 1 := ⟨m - 1, by omega⟩
    have hn := hB.1
    have hx := (hB.2.2 (s + k) (by omega)).2
    have hd := of_decide_eq_true (hb (s + k) (by omega) (by omega))
    have fin : ∀ v : Int32, (k < 4 → v = nI (nv b s (k + 1))) → ∃ J', FN [22, 25] J J' ∧ J' 0 22 = nI e ∧ (e - s ≤ 4 → J' 0 25 = nI (nv b s (e - s))) ∧ B_X8_next_290 (B_X8_next_230 fu 0 m) fu 0 (mkM J) (nI k) v (some 0) = B_X8_next_309 fu 0 (mkM J') (nI (e - s)) := by
      intro v hv
      have s0 : FN [22, 25] J (up2 (up2 J 0 25 v) 0 22 (nI (s + k + 1))) := FN_tr (FN_0 (by decide)) (FN_0 (by decide))
      obtain ⟨J', g1, g2, g3, g4⟩ := ih (k + 1) m (up2 (up2 J 0 25 v) 0 22 (nI (s + k + 1))) (by omega) (by omega) (BM_s hB s0 (by decide)) up2_s (fun h => by rw [up2_j (by decide), up2_s]; exact hv (by omega)) hb
      refine ⟨J', FN_tr s0 g1, g2, g3, ?_⟩
      unfold B_X8_next_290
      rw [M_pI, bind_some', M_gI, bind_some', up2_j (by decide), h22, nI_1, M_pI, bind_some', nI_1]
      exact g4
    show ∃ J', _ ∧ _ ∧ _ ∧ L_X8_next_230 _ _ _ _ _ = _
    unfold L_X8_next_230
    rw [M_gI, bind_some', M_gI, bind_some', hB.2.1, h22, if_neg (nI_ge (show s + k < n by omega) (by omega)), M_r9, bind_some', bind_some', m7 hB (by omega), bind_some', m_inD hx, b2_some, hb (s + k) (by omega) (by omega), if_neg bIt]
    by_cases c : 4 ≤ k
    · rw [if_pos (show (4 : Int32) ≤ nI k by rw [lit 4]; exact nI_le c (by omega))]
      exact fin 0 (fun h => by omega)
    · rw [if_neg (show ¬ (4 : Int32) ≤ nI k by rw [lit 4]; exact nI_ge (by omega) (by decide)), M_gI, bind_some', M_r9, bind_some', M_gI, bind_some', h22, m7 hB (by omega), bind_some', h25 (by omega), lit 10, nI_mul, nI_add, lit 48, pk_sub (by omega)]
      exact fin _ (fun _ => congrArg nI (show 10 * nv b s k + b (s + k) - 48 = 10 * nv b s k + (b (s + k) - 48) by omega))
