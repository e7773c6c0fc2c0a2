/-! THE CLASS'S TOKENS -/
def BY (I : Nat → Nat → Int32) (b : Nat → Nat) (n : Nat) : Prop := n ≤ 160 ∧ I 34 1 = nI n ∧ ∀ i, i < n → I 35 i = nI (b i) ∧ b i < 256
def CT (a : Nat) : Prop := a = 36 ∨ a = 37 ∨ a = 38
theorem T_gI {q : Xp} {I : Nat → Nat → Int32} {j : Nat} : gI (mkX q I) (some 34) 4 j = some (I 34 j) := X_gI (by decide) rfl
theorem at35 {q : Xp} {I : Nat → Nat → Int32} {b : Nat → Nat} {n i : Nat} (h : BY I b n) (hi : i < n) : F_X7_at (mkX q I) (some 35) (nI i) = some (nI (b i), mkX q I) := by
  have : F_X7_at (mkX q I) (some 35) (nI i) = some (I 35 i, mkX q I) := X_at 160 (by decide) rfl (by have := h.1; omega) (by decide)
  rw [this, (h.2.2 i hi).1]
theorem BY_s {I I' : Nat → Nat → Int32} {b : Nat → Nat} {n : Nat} (h : BY I b n) (hs : smx CT I I') : BY I' b n := by
  unfold BY
  rw [hs 34 (fun q => by unfold CT at q; omega), hs 35 (fun q => by unfold CT at q; omega)]
  exact h
theorem c_blank {S : Hp} {x : Nat} (hx : x < 256) : F_X6_isBlank S (nI x) = some (bI (blB x), S) := by
  unfold F_X6_isBlank B_X6_isBlank_12 B_X6_isBlank_17 blB
  by_cases h1 : x = 32
  · rw [if_pos (show nI x = 32 by rw [h1]; rfl), decide_eq_true (Or.inl h1)]; rfl
  rw [if_neg (show ¬ nI x = 32 from fun q => h1 (nI_inj (by omega) (by decide) q))]
  by_cases h2 : x = 10
  · rw [if_pos (show nI x = 10 by rw [h2]; rfl), decide_eq_true (Or.inr h2)]; rfl
  · rw [if_neg (show ¬ nI x = 10 from fun q => h2 (nI_inj (by omega) (by decide) q)), decide_eq_false (fun q => q.elim h1 h2)]; rfl
theorem c_letter {S : Hp} {x : Nat} (hx : x < 256) : F_X6_isLetter S (nI x) = some (bI (ltB x), S) := by
  unfold F_X6_isLetter B_X6_isLetter_16 B_X6_isLetter_17 ltB
  by_cases h1 : x < 97
  · rw [if_pos (show nI x < 97 by rw [lit 97]; exact nI_lt h1 (by decide)), decide_eq_false (by omega)]; rfl
  rw [if_neg (show ¬ nI x < 97 by rw [lit 97]; exact nI_nlt (by omega) (by omega))]
  by_cases h2 : 122 < x
  · rw [if_pos (show 122 < nI x by rw [lit 122]; exact nI_lt h2 (by omega)), decide_eq_false (by omega)]; rfl
  · rw [if_neg (show ¬ 122 < nI x by rw [lit 122]; exact nI_nlt (by omega) (by decide)), decide_eq_true (by omega)]; rfl
theorem c_digit {S : Hp} {x : Nat} (hx : x < 256) : F_X6_isDigit S (nI x) = some (bI (dgB x), S) := by
  unfold F_X6_isDigit B_X6_isDigit_16 B_X6_isDigit_17 dgB
  by_cases h1 : x < 48
  · rw [if_pos (show nI x < 48 by rw [lit 48]; exact nI_lt h1 (by decide)), decide_eq_false (by omega)]; rfl
  rw [if_neg (show ¬ nI x < 48 by rw [lit 48]; exact nI_nlt (by omega) (by omega))]
  by_cases h2 : 57 < x
  · rw [if_pos (show 57 < nI x by rw [lit 57]; exact nI_lt h2 (by omega)), decide_eq_false (by omega)]; rfl
  · rw [if_neg (show ¬ 57 < nI x by rw [lit 57]; exact nI_nlt (by omega) (by decide)), decide_eq_true (by omega)]; rfl
theorem c_goes {q : Xp} {I : Nat → Nat → Int32} {b : Nat → Nat} {n i : Nat} (h : BY I b n) (hi : i < n) : F_X6_goesOnAt (mkX q I) 34 (nI i) = some (bI (if i = 0 then false else gO b i), mkX q I) := by
  obtain ⟨x, hx, hx2, hx3⟩ : ∃ x, x < 256 ∧ F_X7_at (mkX q I) (some 35) (nI i - 1) = some (nI x, mkX q I) ∧ x = (if i = 0 then 0 else b (i - 1)) := by
    by_cases h0 : i = 0
    · refine ⟨0, by decide, ?_, by rw [if_pos h0]⟩
      subst h0
      unfold F_X7_at B_X7_at_16 B_X7_at_17
      rw [if_pos (show nI 0 - 1 < 0 by decide)]
      rfl
    · refine ⟨b (i - 1), (h.2.2 (i - 1) (by omega)).2, ?_, by rw [if_neg h0]⟩
      rw [show nI i - 1 = nI (i - 1) from (pk_sub (a := i) (b := 1) (by omega)), at35 h (by omega)]
  have hy := (h.2.2 i hi).2
  have e : (if i = 0 then false else gO b i) = ((ltB x && ltB (b i)) || (dgB x && dgB (b i))) := by
    rw [hx3]
    by_cases h0 : i = 0
    · rw [if_pos h0, if_pos h0]; rfl
    · rw [if_neg h0, if_neg h0]; rfl
  unfold F_X6_goesOnAt B_X6_goesOnAt_34 B_X6_goesOnAt_48 B_X6_goesOnAt_52 B_X6_goesOnAt_53
  rw [T_r0, bind_some', hx2, b2_some, T_r0, bind_some', at35 h hi, b2_some, c_letter hx, b2_some, c_letter hy, b2_some, c_digit hx, b2_some, c_digit hy, b2_some, e]
  cases ltB x <;> cases ltB (b i) <;> cases dgB x <;> cases dgB (b i) <;> rfl
/-! words -/
theorem sLen_q {w : Nat} (h : w < 14) : sLen w = some (nI (zlen.getD w 0)) := if_pos h
theorem sAt_q {w j : Nat} (h : w < 14) (hj : j < zlen.getD w 0) (hz : zlen.getD w 0 < 100) : sAt w (nI j) = some ((zbyt.getD w []).getD j 0) := by
  unfold sAt
  rw [if_pos h, if_pos (inb_nI hj (by omega)), nI_clamp (by omega)]
theorem zlen_s : ∀ w, w < 14 → zlen.getD w 0 < 100 := by decide
theorem c_spL {q : Xp} {I : Nat → Nat → Int32} {b : Nat → Nat} {n s w fu : Nat} (h : BY I b n) (hw : w < 14) (hs : s + zlen.getD w 0 ≤ n) : ∀ d k m, zlen.getD w 0 = k + d → d < m → B_X6_isSpelled_20 fu 34 (nI s) w m (mkX q I) 1 (nI k) = some (bI (decide (∀ j, j < zlen.getD w 0 → k ≤ j → nI (b (s + j)) = (zbyt.getD w []).getD j 0)), mkX q I) := by
  have hz := zlen_s w hw
  have hn := h.1
  intro d
  induction d with
  | zero =>
    intro k m hk hm
    obtain ⟨m, rfl⟩ : ∃ z, m = z + 1 := ⟨m - 1, by omega⟩
    show L_X6_isSpelled_20 _ _ _ _ _ _ _ _ = _
    unfold L_X6_isSpelled_20 B_X6_isSpelled_67
    rw [if_neg (show ¬ (1 : Int32) = 0 by decide), sLen_q hw, bind_some', if_pos (nI_le (by omega) (by omega)), decide_eq_true (fun j h1 h2 => by omega)]
    rfl
  | succ d ih =>
    intro k m hk hm
    obtain ⟨m, rfl⟩ : ∃ z, m = z + 1 := ⟨m - 1, by omega⟩
    show L_X6_isSpelled_20 _ _ _ _ _ _ _ _ = _
    unfold L_X6_isSpelled_20 B_X6_isSpelled_67 B_X6_isSpelled_59
    rw [if_neg (show ¬ (1 : Int32) = 0 by decide), sLen_q hw, bind_some', if_neg (nI_ge (show k < zlen.getD w 0 by omega) (by omega)), T_r0, bind_some', nI_add, at35 h (by omega), b2_some, sAt_q hw (by omega) hz, bind_some', nI_1]
    by_cases e : nI (b (s + k)) = (zbyt.getD w []).getD k 0
    · rw [if_pos e, ih (k + 1) m (by omega) (by omega)]
      have : decide (∀ j, j < zlen.getD w 0 → k + 1 ≤ j → nI (b (s + j)) = (zbyt.getD w []).getD j 0) = decide (∀ j, j < zlen.getD w 0 → k ≤ j → nI (b (s + j)) = (zbyt.getD w []).getD j 0) := by
        apply decide_eq_decide.mpr
        constructor
        · intro g j h1 h2
          by_cases ej : j = k
          · rw [ej]; exact e
          · exact g j h1 (by omega)
        · intro g j h1 h2
          exact g j h1 (by omega)
      rw [this]
    · obtain ⟨m, rfl⟩ : ∃ z, m = z + 1 := ⟨m - 1, by omega⟩
      rw [if_neg e, decide_eq_false (fun g => e (g k (by omega) (Nat.le_refl _)))]
      show L_X6_isSpelled_20 _ _ _ _ _ _ _ _ = _
      unfold L_X6_isSpelled_20 B_X6_isSpelled_67
      rw [if_pos rfl]
      rfl
theorem c_spelled {q : Xp} {I : Nat → Nat → Int32} {b : Nat → Nat} {n s e w fu : Nat} (h : BY I b n) (hw : w < 14) (hs : s ≤ e) (he : e ≤ n) (hfu : 200 < fu) : F_X6_isSpelled fu (mkX q I) 34 (nI s) (nI e) w = some (bI (mt b s e w), mkX q I) := by
  have hz := zlen_s w hw
  have hn := h.1
  unfold F_X6_isSpelled B_X6_isSpelled_15 mt
  rw [sLen_q hw, bind_some', pk_sub hs]
  by_cases hl : e - s = zlen.getD w 0
  · have g : B_X6_isSpelled_20 fu 34 (nI s) w fu (mkX q I) 1 0 = some (bI (decide (∀ j, j < zlen.getD w 0 → 0 ≤ j → nI (b (s + j)) = (zbyt.getD w []).getD j 0)), mkX q I) := c_spL (s := s) h hw (by omega) (zlen.getD w 0) 0 fu (by omega) (by omega)
    rw [if_pos (by rw [hl]), g]
    have : decide (∀ j, j < zlen.getD w 0 → 0 ≤ j → nI (b (s + j)) = (zbyt.getD w []).getD j 0) = decide (e - s = zlen.getD w 0 ∧ ∀ j, j < zlen.getD w 0 → nI (b (s + j)) = (zbyt.getD w []).getD j 0) := by
      apply decide_eq_decide.mpr
      exact ⟨fun g => ⟨hl, fun j h1 => g j h1 (Nat.zero_le _)⟩, fun g j h1 _ => g.2 j h1⟩
    rw [this]
  · obtain ⟨fu, rfl⟩ : ∃ z, fu = z + 1 := ⟨fu - 1, by omega⟩
    rw [if_neg (fun g => hl (nI_inj (by omega) (by omega) g)), decide_eq_false (fun g => hl g.1)]
    show L_X6_isSpelled_20 _ _ _ _ _ _ _ _ = _
    unfold L_X6_isSpelled_20 B_X6_isSpelled_67
    rw [if_pos rfl]
    rfl
theorem c_sp {S : Hp} : ∀ w, 10 ≤ w → w ≤ 21 → F_X5_spelling S (nI w) = some (w - 9, S) := by
  intro w h1 h2
  rcases (show w = 10 ∨ w = 11 ∨ w = 12 ∨ w = 13 ∨ w = 14 ∨ w = 15 ∨ w = 16 ∨ w = 17 ∨ w = 18 ∨ w = 19 ∨ w = 20 ∨ w = 21 by omega) with rfl | rfl | rfl | rfl | rfl | rfl | rfl | rfl | rfl | rfl | rfl | rfl <;> rfl
theorem c_kL {q : Xp} {I : Nat → Nat → Int32} {b : Nat → Nat} {n s e fu : Nat} (h : BY I b n) (hs : s ≤ e) (he : e ≤ n) (hfu : 200 < fu) : ∀ f w m, w + f = 22 → 10 ≤ w → f < m → B_X6_kindOfToken_45 fu 34 (nI s) (nI e) m (mkX q I) (nI w) = some (nI (cwf (fun w => mt b s e (w - 9)) f w), mkX q I) := by
  intro f
  induction f with
  | zero =>
    intro w m hw hw2 hm
    obtain ⟨m, rfl⟩ : ∃ z, m = z + 1 := ⟨m - 1, by omega⟩
    show L_X6_kindOfToken_45 _ _ _ _ _ _ _ = _
    unfold L_X6_kindOfToken_45
    rw [if_pos (show (21 : Int32) < nI w by rw [lit 21]; exact nI_lt (by omega) (by omega))]
    rfl
  | succ f ih =>
    intro w m hw hw2 hm
    obtain ⟨m, rfl⟩ : ∃ z, m = z + 1 := ⟨m - 1, by omega⟩
    show L_X6_kindOfToken_45 _ _ _ _ _ _ _ = some (nI (if mt b s e (w - 9) = true then w else cwf (fun w => mt b s e (w - 9)) f (w + 1)), _)
    unfold L_X6_kindOfToken_45
    rw [if_neg (show ¬ (21 : Int32) < nI w by rw [lit 21]; exact nI_nlt (by omega) (by decide)), c_sp w hw2 (by omega), b2_some, X_ob34, bind_some', c_spelled h (by omega) hs he hfu, b2_some]
    cases hm : mt b s e (w - 9) with
    | true => rw [if_neg bIt, if_pos rfl]
    | false => rw [if_pos bIf, if_neg (by decide), nI_1, ih (w + 1) m (by omega) (by omega) (by omega)]
theorem c_ofByte {S : Hp} {x : Nat} (hx : x < 256) : F_X5_ofByte S (nI x) = some (nI (if sgB x = true then x else 1), S) := by
  have ne : ∀ c, c < 256 → x ≠ c → ¬ nI x = nI c := fun c hc g q => g (nI_inj (by omega) (by omega) q)
  unfold F_X5_ofByte
  by_cases h40 : x = 40
  · subst h40
    rw [if_pos (show nI 40 = 40 from rfl)]
    rfl
  rw [if_neg (show ¬ nI x = 40 from ne 40 (by decide) h40)]
  by_cases h41 : x = 41
  · subst h41
    rw [if_pos (show nI 41 = 41 from rfl)]
    rfl
  rw [if_neg (show ¬ nI x = 41 from ne 41 (by decide) h41)]
  by_cases h42 : x = 42
  · subst h42
    rw [if_pos (show nI 42 = 42 from rfl)]
    rfl
  rw [if_neg (show ¬ nI x = 42 from ne 42 (by decide) h42)]
  by_cases h43 : x = 43
  · subst h43
    rw [if_pos (show nI 43 = 43 from rfl)]
    rfl
  rw [if_neg (show ¬ nI x = 43 from ne 43 (by decide) h43)]
  by_cases h44 : x = 44
  · subst h44
    rw [if_pos (show nI 44 = 44 from rfl)]
    rfl
  rw [if_neg (show ¬ nI x = 44 from ne 44 (by decide) h44)]
  by_cases h45 : x = 45
  · subst h45
    rw [if_pos (show nI 45 = 45 from rfl)]
    rfl
  rw [if_neg (show ¬ nI x = 45 from ne 45 (by decide) h45)]
  by_cases h46 : x = 46
  · subst h46
    rw [if_pos (show nI 46 = 46 from rfl)]
    rfl
  rw [if_neg (show ¬ nI x = 46 from ne 46 (by decide) h46)]
  by_cases h47 : x = 47
  · subst h47
    rw [if_pos (show nI 47 = 47 from rfl)]
    rfl
  rw [if_neg (show ¬ nI x = 47 from ne 47 (by decide) h47)]
  by_cases h48 : x = 48
  · subst h48
    rw [if_pos (show nI 48 = 48 from rfl)]
    rfl
  rw [if_neg (show ¬ nI x = 48 from ne 48 (by decide) h48)]
  by_cases h49 : x = 49
  · subst h49
    rw [if_pos (show nI 49 = 49 from rfl)]
    rfl
  rw [if_neg (show ¬ nI x = 49 from ne 49 (by decide) h49)]
  by_cases h50 : x = 50
  · subst h50
    rw [if_pos (show nI 50 = 50 from rfl)]
    rfl
  rw [if_neg (show ¬ nI x = 50 from ne 50 (by decide) h50)]
  by_cases h51 : x = 51
  · subst h51
    rw [if_pos (show nI 51 = 51 from rfl)]
    rfl
  rw [if_neg (show ¬ nI x = 51 from ne 51 (by decide) h51)]
  by_cases h52 : x = 52
  · subst h52
    rw [if_pos (show nI 52 = 52 from rfl)]
    rfl
  rw [if_neg (show ¬ nI x = 52 from ne 52 (by decide) h52)]
  by_cases h53 : x = 53
  · subst h53
    rw [if_pos (show nI 53 = 53 from rfl)]
    rfl
  rw [if_neg (show ¬ nI x = 53 from ne 53 (by decide) h53)]
  by_cases h54 : x = 54
  · subst h54
    rw [if_pos (show nI 54 = 54 from rfl)]
    rfl
  rw [if_neg (show ¬ nI x = 54 from ne 54 (by decide) h54)]
  by_cases h55 : x = 55
  · subst h55
    rw [if_pos (show nI 55 = 55 from rfl)]
    rfl
  rw [if_neg (show ¬ nI x = 55 from ne 55 (by decide) h55)]
  by_cases h56 : x = 56
  · subst h56
    rw [if_pos (show nI 56 = 56 from rfl)]
    rfl
  rw [if_neg (show ¬ nI x = 56 from ne 56 (by decide) h56)]
  by_cases h57 : x = 57
  · subst h57
    rw [if_pos (show nI 57 = 57 from rfl)]
    rfl
  rw [if_neg (show ¬ nI x = 57 from ne 57 (by decide) h57)]
  by_cases h58 : x = 58
  · subst h58
    rw [if_pos (show nI 58 = 58 from rfl)]
    rfl
  rw [if_neg (show ¬ nI x = 58 from ne 58 (by decide) h58)]
  by_cases h59 : x = 59
  · subst h59
    rw [if_pos (show nI 59 = 59 from rfl)]
    rfl
  rw [if_neg (show ¬ nI x = 59 from ne 59 (by decide) h59)]
  by_cases h60 : x = 60
  · subst h60
    rw [if_pos (show nI 60 = 60 from rfl)]
    rfl
  rw [if_neg (show ¬ nI x = 60 from ne 60 (by decide) h60)]
  by_cases h61 : x = 61
  · subst h61
    rw [if_pos (show nI 61 = 61 from rfl)]
    rfl
  rw [if_neg (show ¬ nI x = 61 from ne 61 (by decide) h61)]
  rw [show sgB x = false from decide_eq_false (by omega)]
  rfl
theorem c_kind {q : Xp} {I : Nat → Nat → Int32} {b : Nat → Nat} {n s e fu : Nat} (h : BY I b n) (hs : s < e) (he : e ≤ n) (hfu : 200 < fu) : F_X6_kindOfToken fu (mkX q I) 34 (nI s) (nI e) = some (nI (kN b s e), mkX q I) := by
  have hn := h.1
  have hx := (h.2.2 s (by omega)).2
  unfold F_X6_kindOfToken B_X6_kindOfToken_28 kN
  rw [T_r0, bind_some', at35 h (by omega), b2_some, c_digit hx, b2_some]
  cases hd : dgB (b s) with
  | true =>
    rw [if_neg bIt, if_pos rfl, pk_sub (by omega)]
    by_cases h4 : e - s ≤ 4
    · rw [if_pos (show nI (e - s) ≤ 4 by rw [lit 4]; exact nI_le h4 (by decide)), if_pos h4]
      rfl
    · rw [if_neg (show ¬ nI (e - s) ≤ 4 by rw [lit 4]; exact nI_ge (by omega) (by omega)), if_neg h4]
      rfl
  | false =>
    rw [if_pos bIf, if_neg (by decide), c_letter hx, b2_some]
    cases hl : ltB (b s) with
    | true =>
      rw [if_neg bIt, if_pos rfl]
      exact c_kL h (by omega) he hfu 12 10 fu rfl (by decide) (by omega)
    | false =>
      rw [if_pos bIf, if_neg (by decide), c_ofByte hx, b2_some]
