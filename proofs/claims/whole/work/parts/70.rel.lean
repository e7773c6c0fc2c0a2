/-! BOTH SIDES, TIED -/
def wdM : List Int32 := [115, 116, 114, 111, 107, 101, 115, 32, 100, 111, 117, 98, 116, 115, 32, 32, 112, 97, 121, 115, 32, 32, 32, 32, 119, 101, 105, 103, 104, 116, 32, 32, 115, 104, 97, 114, 101, 100, 32, 32, 115, 101, 101, 110, 32, 32, 32, 32, 100, 97, 121, 32, 32, 32, 32, 32, 112, 114, 105, 100, 101, 32, 32, 32, 109, 111, 114, 101, 32, 32, 32, 32, 111, 114, 32, 32, 32, 32, 32, 32, 97, 110, 100, 32, 32, 32, 32, 32, 110, 111, 116, 32, 32, 32, 32, 32]
def okCB (c : Nat → Int32) (b : Nat → Nat) : Prop := b 0 = 0 ∧ b 0 ≤ b 1 ∧ b 1 ≤ b 2 ∧ b 2 ≤ b 3 ∧ b 3 ≤ 160 ∧ ∀ part, part < 3 → wfs c (b (part + 1) - b part) (b part) 0
theorem okLaw_cb {v : Ev} : okLaw v ↔ okCB (vCode v) (vBnd v) := Iff.rfl
/-- law r lies on both sides -/
def LT (q : Xp) (I J : Nat → Nat → Int32) (r : Nat) (c : Nat → Int32) (b : Nat → Nat) : Prop := r < q.1 ∧ okCB c b ∧ q.2.1 r = b 3 ∧ (∀ i, i < 3 → I (54 + 4 * r) i = nI (b (i + 1))) ∧ (∀ i, i < b 3 → I (55 + 4 * r) i = tr (c i)) ∧ (∀ i, i ≤ 3 → J 9 (4 * r + i) = nI (b i)) ∧ ∀ i, i < b 3 → J 8 (200 * r + i) = c i
/-- the rows of an evening in the class -/
def EX (I : Nat → Nat → Int32) (e : Nat) (v : Ev) : Prop := (I e 0 = nI (vP v) ∧ vP v ≤ 6) ∧ (I e 5 = nI (vW v) ∧ vW v ≤ 10) ∧ I e 9 = vDay v ∧ (∀ p, p < vP v → I (e + 1) p = vKind v p ∧ I (e + 2) p = vMore v p ∧ I (e + 3) p = vPride v p ∧ I (e + 4) p = vName v p) ∧ (∀ k, k < vW v → I (e + 5) k = vDo v k ∧ I (e + 6) k = vWt v k ∧ I (e + 7) k = vSw v k)
/-- and in the reference -/
def EM (J : Nat → Nat → Int32) (v : Ev) : Prop := (J 0 0 = nI (vP v) ∧ vP v ≤ 6) ∧ (J 0 7 = nI (vW v) ∧ vW v ≤ 10) ∧ J 0 8 = vDay v ∧ (∀ p, p < vP v → J 1 p = vKind v p ∧ J 2 p = vMore v p ∧ J 3 (2 * p) = vPride v p ∧ J 3 (2 * p + 1) = vName v p) ∧ (∀ k, k < vW v → J 4 k = vDo v k ∧ J 5 k = vWt v k ∧ J 6 k = vSw v k)
/-- and in the reference's image -/
def IMG (J : Nat → Nat → Int32) (v w : Ev) : Prop := vP w ≤ vP v ∧ J 11 0 = nI (vP w) ∧ J 11 1 = nI (vW w) ∧ J 11 2 = vDay w ∧ (∀ p, p < vP w → vKind v p = vKind w p ∧ vMore v p = vMore w p ∧ J 10 (30 + 2 * p) = vPride w p ∧ J 10 (30 + (2 * p + 1)) = vName w p) ∧ ∀ k, k < vW w → J 10 k = vDo w k ∧ J 10 (10 + k) = vWt w k ∧ J 10 (20 + k) = vSw w k
def okDay (v : Ev) : Prop := ∃ d, d ≤ 999 ∧ vDay v = nI d
def TP (I J : Nat → Nat → Int32) : Prop := ∃ n, n ≤ 160 ∧ I 34 1 = nI n ∧ J 0 10 = nI n ∧ ∀ i, i < n → I 35 i = J 7 i ∧ ∃ b, b < 256 ∧ J 7 i = nI b
def SH (I J : Nat → Nat → Int32) : Prop := ∀ s, s < 4 → I (45 + 2 * s) 0 = J 12 s ∧ I (45 + 2 * s) 1 = J 13 s ∧ (∃ z, z ≤ 40 ∧ J 13 s = nI z) ∧ (J 12 s = -1 ∨ J 12 s = 0 ∨ J 12 s = 1 ∨ J 12 s = 2) ∧ ∀ i, i < 40 → I (46 + 2 * s) i = J 14 (40 * s + i)
def CL (q : Xp) (I J : Nat → Nat → Int32) (v : Ev) : Prop := ∃ r, I 1 10 = nI r ∧ J 0 14 = nI r ∧ q.2.2.1 = some (53 + 4 * r) ∧ LT q I J r (vCode v) (vBnd v)
def IL (q : Xp) (I J : Nat → Nat → Int32) (w : Ev) : Prop := ∃ r, I 23 10 = nI r ∧ J 11 3 = nI r ∧ q.2.2.2.2 = some (53 + 4 * r) ∧ LT q I J r (vCode w) (vBnd w)
def Rv (q : Xp) (I J : Nat → Nat → Int32) (v : Ev) : Prop :=
  EX I 1 v ∧ EM J v ∧ okEv v ∧ okDay v ∧ CL q I J v ∧ (1 ≤ q.1 ∧ q.1 ≤ 6 ∧ I 0 7 = nI q.1 ∧ J 0 13 = nI q.1 ∧ ∀ t, t < q.1 → ∃ c b, LT q I J t c b) ∧ TP I J ∧ SH I J ∧ (I 0 3 = J 0 15 ∧ (J 0 15 = 0 ∨ J 0 15 = 1 ∧ ∃ w, EX I 23 w ∧ okEv w ∧ okDay w ∧ IMG J v w ∧ IL q I J w)) ∧ ∀ i, i < 96 → J 16 i = wdM.getD i 0
def Rel (SX SM : Hp) : Prop := ∃ q I J v, SX = mkX q I ∧ SM = mkM J ∧ Rv q I J v
theorem Rv_X {q : Xp} {I J : Nat → Nat → Int32} {v : Ev} (h : Rv q I J v) : RX q I 1 v := by
  obtain ⟨⟨h1, h2, h3, h4, h5⟩, -, -, -, ⟨r, -, -, hl, ht, ho, hc, he, hd, -, -⟩, -⟩ := h
  exact ⟨h1, h2, h3, h4, h5, ⟨r, ht, hl, hc, he, hd⟩, ho⟩
theorem Rv_M {q : Xp} {I J : Nat → Nat → Int32} {v : Ev} (h : Rv q I J v) : RM J v := by
  obtain ⟨-, ⟨h1, h2, h3, h4, h5⟩, -, -, ⟨r, -, hr, -, ht, ho, hc, -, -, he, hd⟩, ⟨-, h6, -⟩, -⟩ := h
  exact ⟨h1, h2, h3, h4, h5, ⟨r, by omega, hr, he, hd⟩, ho⟩
/-- what no promise rests on -/
def EC (a : Nat) : Prop := (9 ≤ a ∧ a ≤ 22) ∨ (31 ≤ a ∧ a ≤ 33) ∨ (36 ≤ a ∧ a ≤ 44) ∨ ES a
def sm0 (J J' : Nat → Nat → Int32) : Prop := (∀ a, 1 ≤ a → a ≤ 16 → J' a = J a) ∧ J' 0 0 = J 0 0 ∧ J' 0 7 = J 0 7 ∧ J' 0 8 = J 0 8 ∧ J' 0 10 = J 0 10 ∧ J' 0 13 = J 0 13 ∧ J' 0 14 = J 0 14 ∧ J' 0 15 = J 0 15
theorem sm0_rf {J : Nat → Nat → Int32} : sm0 J J := ⟨fun _ _ _ => rfl, rfl, rfl, rfl, rfl, rfl, rfl, rfl⟩
theorem sm0_tr {J J' J'' : Nat → Nat → Int32} (h : sm0 J J') (g : sm0 J' J'') : sm0 J J'' := ⟨fun a h1 h2 => (g.1 a h1 h2).trans (h.1 a h1 h2), g.2.1.trans h.2.1, g.2.2.1.trans h.2.2.1, g.2.2.2.1.trans h.2.2.2.1, g.2.2.2.2.1.trans h.2.2.2.2.1, g.2.2.2.2.2.1.trans h.2.2.2.2.2.1, g.2.2.2.2.2.2.1.trans h.2.2.2.2.2.2.1, g.2.2.2.2.2.2.2.trans h.2.2.2.2.2.2.2⟩
theorem sm0_of {J J' : Nat → Nat → Int32} {ex : List Nat} (h : sme ex J J') (he : ∀ a ∈ ex, 17 ≤ a) : sm0 J J' := by
  have f : ∀ a, a ≤ 16 → J' a = J a := fun a ha => h a (fun q => by have := he a q; omega)
  refine ⟨fun a _ h2 => f a h2, ?_⟩
  rw [f 0 (by omega)]
  exact ⟨rfl, rfl, rfl, rfl, rfl, rfl, rfl⟩
theorem LT_mono {q : Xp} {I I' J J' : Nat → Nat → Int32} {r : Nat} {c : Nat → Int32} {b : Nat → Nat} (h : LT q I J r c b) (h1 : I' (54 + 4 * r) = I (54 + 4 * r)) (h2 : I' (55 + 4 * r) = I (55 + 4 * r)) (h3 : J' 9 = J 9) (h4 : J' 8 = J 8) : LT q I' J' r c b := by
  unfold LT
  rw [h1, h2, h3, h4]
  exact h
theorem EX_mono {I I' : Nat → Nat → Int32} {e : Nat} {v : Ev} (h : EX I e v) (hs : ∀ i, i < 8 → I' (e + i) = I (e + i)) : EX I' e v := by
  have f0 := hs 0 (by decide)
  rw [Nat.add_zero] at f0
  unfold EX
  rw [f0, hs 1 (by decide), hs 2 (by decide), hs 3 (by decide), hs 4 (by decide), hs 5 (by decide), hs 6 (by decide), hs 7 (by decide)]
  exact h
theorem Rv_mono {q : Xp} {I I' J J' : Nat → Nat → Int32} {v : Ev} (h : Rv q I J v) (hs : smx EC I I') (hm : sm0 J J') : Rv q I' J' v := by
  have f : ∀ a, a ≤ 8 → I' a = I a := fun a ha => hs a (fun q => by unfold EC ES at q; omega)
  have f2 : ∀ a, 23 ≤ a → a ≤ 30 → I' a = I a := fun a h1 h2 => hs a (fun q => by unfold EC ES at q; omega)
  have f3 : ∀ a, 34 ≤ a → a ≤ 35 → I' a = I a := fun a h1 h2 => hs a (fun q => by unfold EC ES at q; omega)
  have f4 : ∀ a, 45 ≤ a → a ≤ 52 → I' a = I a := fun a h1 h2 => hs a (fun q => by unfold EC ES at q; omega)
  have f5 : ∀ a, 53 ≤ a → ¬ a % 4 = 0 → I' a = I a := fun a h1 h2 => hs a (fun q => by unfold EC ES at q; omega)
  obtain ⟨hm, m0, m7, m8, m10, m13, m14, m15⟩ := hm
  have lt : ∀ {r c b}, LT q I J r c b → LT q I' J' r c b := fun h => LT_mono h (f5 _ (by omega) (by omega)) (f5 _ (by omega) (by omega)) (hm 9 (by omega) (by omega)) (hm 8 (by omega) (by omega))
  obtain ⟨a1, a2, a3, a4, ⟨r, c1, c2, c3, c4⟩, ⟨t1, t2, t3, t4, t5⟩, ⟨n, n1, n2, n3, n4⟩, a8, ⟨i1, i2⟩, a10⟩ := h
  refine ⟨EX_mono a1 (fun i hi => f _ (by omega)), ?_, a3, a4, ⟨r, ?_, ?_, c3, lt c4⟩, ⟨t1, t2, ?_, ?_, fun t ht => ?_⟩, ⟨n, n1, ?_, ?_, ?_⟩, ?_, ⟨?_, ?_⟩, ?_⟩
  · unfold EM
    rw [m0, m7, m8, hm 1 (by omega) (by omega), hm 2 (by omega) (by omega), hm 3 (by omega) (by omega), hm 4 (by omega) (by omega), hm 5 (by omega) (by omega), hm 6 (by omega) (by omega)]
    exact a2
  · rw [f 1 (by omega)]; exact c1
  · rw [m14]; exact c2
  · rw [f 0 (by omega)]; exact t3
  · rw [m13]; exact t4
  · obtain ⟨c, b, hcb⟩ := t5 t ht
    exact ⟨c, b, lt hcb⟩
  · rw [f3 34 (by omega) (by omega)]; exact n2
  · rw [m10]; exact n3
  · rw [f3 35 (by omega) (by omega), hm 7 (by omega) (by omega)]; exact n4
  · intro s hs4
    rw [f4 (45 + 2 * s) (by omega) (by omega), f4 (46 + 2 * s) (by omega) (by omega), hm 12 (by omega) (by omega), hm 13 (by omega) (by omega), hm 14 (by omega) (by omega)]
    exact a8 s hs4
  · rw [f 0 (by omega), m15]; exact i1
  · rw [m15]
    rcases i2 with h | ⟨h, w, w1, w2, w3, w4, r', l1, l2, l3, l4⟩
    · exact Or.inl h
    · refine Or.inr ⟨h, w, EX_mono w1 (fun i hi => f2 _ (by omega) (by omega)), w2, w3, ?_, r', ?_, ?_, l3, lt l4⟩
      · unfold IMG
        rw [hm 10 (by omega) (by omega), hm 11 (by omega) (by omega)]
        exact w4
      · rw [f2 23 (by omega) (by omega)]; exact l1
      · rw [hm 11 (by omega) (by omega)]; exact l2
  · rw [hm 16 (by omega) (by omega)]; exact a10
theorem EC_8 {e : Nat} {I I' : Nat → Nat → Int32} (he : e = 1 ∨ e = 12) (h : smx (E8 e) I I') : smx EC I I' := smx_wk h (fun a ha => by
  rcases ha with h | h
  · exact Or.inr (Or.inr (Or.inr h))
  · exact Or.inl (by omega))
theorem EC_L {e : Nat} {I I' : Nat → Nat → Int32} (he : e = 1 ∨ e = 12) (h : smx (EL e) I I') : smx EC I I' := smx_wk h (fun a ha => by
  rcases ha with h | h | h | h
  · exact Or.inr (Or.inr (Or.inr h))
  · exact Or.inl (by omega)
  · exact Or.inl (by omega)
  · exact Or.inl (by omega))
theorem Rel_0 : ∀ SX SM, Rel SX SM → (0 < SX.1 ∧ (SX.2.1 0).1 = 5) ∧ (0 < SM.1 ∧ (SM.2.1 0).1 = 6) := by
  rintro SX SM ⟨q, I, J, v, rfl, rfl, -⟩
  exact ⟨⟨by show 0 < 53 + 4 * q.1; omega, rfl⟩, by show 0 < 23; omega, rfl⟩
theorem X_r0 {q : Xp} {I : Nat → Nat → Int32} : gR (mkX q I) (some 0) 5 0 = some (some 1) := (X_gR (by decide) rfl).trans rfl
theorem X_r1 {q : Xp} {I : Nat → Nat → Int32} : gR (mkX q I) (some 0) 5 1 = some (some 12) := (X_gR (by decide) rfl).trans rfl
theorem X_r2 {q : Xp} {I : Nat → Nat → Int32} : gR (mkX q I) (some 0) 5 2 = some (some 23) := (X_gR (by decide) rfl).trans rfl
theorem X_r4 {q : Xp} {I : Nat → Nat → Int32} : gR (mkX q I) (some 0) 5 4 = some (some 34) := (X_gR (by decide) rfl).trans rfl
theorem X_r5 {q : Xp} {I : Nat → Nat → Int32} : gR (mkX q I) (some 0) 5 5 = some (some 39) := (X_gR (by decide) rfl).trans rfl
theorem X_r6 {q : Xp} {I : Nat → Nat → Int32} : gR (mkX q I) (some 0) 5 6 = some (some 42) := (X_gR (by decide) rfl).trans rfl
theorem X_r8 {q : Xp} {I : Nat → Nat → Int32} : gR (mkX q I) (some 0) 5 8 = some (some 43) := (X_gR (by decide) rfl).trans rfl
theorem X_r9 {q : Xp} {I : Nat → Nat → Int32} : gR (mkX q I) (some 0) 5 9 = some (some 44) := (X_gR (by decide) rfl).trans rfl
theorem X_g0 {q : Xp} {I : Nat → Nat → Int32} {j : Nat} : gI (mkX q I) (some 0) 5 j = some (I 0 j) := X_gI (by decide) rfl
theorem X_g34 {q : Xp} {I : Nat → Nat → Int32} {j : Nat} : gI (mkX q I) (some 34) 4 j = some (I 34 j) := X_gI (by decide) rfl
theorem eE1 : isE 1 := Or.inl rfl
theorem eE12 : isE 12 := Or.inr (Or.inl rfl)
theorem eE23 : isE 23 := Or.inr (Or.inr rfl)
/-! the first promises -/
theorem al_count {fu : Nat} : Al_count Rel fu := by
  rintro SX SM ⟨q, I, J, v, rfl, rfl, h⟩ a1
  obtain ⟨⟨⟨p1, -⟩, ⟨w1, -⟩, d1, -⟩, ⟨⟨p2, -⟩, ⟨w2, -⟩, d2, -⟩, -, -, ⟨r, c1, c2, -⟩, ⟨-, -, t1, t2, -⟩, ⟨n, -, n1, n2, -⟩, -⟩ := id h
  unfold F_X7_count F_X8_count
  by_cases h0 : a1 = 0
  · exact ⟨nI (vP v), _, _, by rw [if_pos h0, X_r0, bind_some', E_gI eE1, bind_some', p1], by rw [if_pos h0, M_gI, bind_some', p2], q, I, J, v, rfl, rfl, h⟩
  by_cases h1 : a1 = 1
  · exact ⟨nI (vW v), _, _, by rw [if_neg h0, if_pos h1, X_r0, bind_some', E_gI eE1, bind_some', w1], by rw [if_neg h0, if_pos h1, M_gI, bind_some', w2], q, I, J, v, rfl, rfl, h⟩
  by_cases h2 : a1 = 2
  · exact ⟨vDay v, _, _, by rw [if_neg h0, if_neg h1, if_pos h2, X_r0, bind_some', E_gI eE1, bind_some', d1], by rw [if_neg h0, if_neg h1, if_pos h2, M_gI, bind_some', d2], q, I, J, v, rfl, rfl, h⟩
  by_cases h3 : a1 = 3
  · exact ⟨nI q.1, _, _, by rw [if_neg h0, if_neg h1, if_neg h2, if_pos h3, X_g0, bind_some', t1], by rw [if_neg h0, if_neg h1, if_neg h2, if_pos h3, M_gI, bind_some', t2], q, I, J, v, rfl, rfl, h⟩
  by_cases h4 : a1 = 4
  · exact ⟨nI r, _, _, by rw [if_neg h0, if_neg h1, if_neg h2, if_neg h3, if_pos h4, X_r0, bind_some', E_gI eE1, bind_some', c1], by rw [if_neg h0, if_neg h1, if_neg h2, if_neg h3, if_pos h4, M_gI, bind_some', c2], q, I, J, v, rfl, rfl, h⟩
  by_cases h5 : a1 = 5
  · exact ⟨nI n, _, _, by rw [if_neg h0, if_neg h1, if_neg h2, if_neg h3, if_neg h4, if_pos h5, X_r4, bind_some', X_g34, bind_some', n1], by rw [if_neg h0, if_neg h1, if_neg h2, if_neg h3, if_neg h4, if_pos h5, M_gI, bind_some', n2], q, I, J, v, rfl, rfl, h⟩
  exact ⟨-2, _, _, by rw [if_neg h0, if_neg h1, if_neg h2, if_neg h3, if_neg h4, if_neg h5], by rw [if_neg h0, if_neg h1, if_neg h2, if_neg h3, if_neg h4, if_neg h5], q, I, J, v, rfl, rfl, h⟩
