/-! THE CLASS'S SPLIT -/
def FT (I : Nat → Nat → Int32) (b : Nat → Nat) (n N : Nat) : Prop := (∀ t, t ≤ N → I 36 t = nI ((tkN b n).1 t) ∧ I 37 t = nI (sN b n t)) ∧ ∀ t, t < N → I 38 t = nI (pN b n (t + 1))
theorem at3 {q : Xp} {I : Nat → Nat → Int32} {a t : Nat} (ha : a = 36 ∨ a = 37 ∨ a = 38) (ht : t ≤ 160) : F_X7_at (mkX q I) (some a) (nI t) = some (I a t, mkX q I) := by
  rcases ha with rfl | rfl | rfl <;> exact X_at 161 (by decide) rfl (by omega) (by decide)
theorem st3 {q : Xp} {I : Nat → Nat → Int32} {a t : Nat} {v : Int32} (ha : a = 36 ∨ a = 37 ∨ a = 38) (ht : t ≤ 160) : F_X7_store (mkX q I) (some a) (nI t) v = some (mkX q (up2 I a t v)) := by
  rcases ha with rfl | rfl | rfl <;> exact X_st 161 (by decide) rfl (by omega) (by decide)
theorem c_kindsL {q : Xp} {b : Nat → Nat} {n N fu : Nat} (hN : N ≤ n) (hNn : sN b n N = n) (hlt : ∀ t, t < N → sN b n t < n) (hfu : 200 < fu) : ∀ d t m (I : Nat → Nat → Int32), N = t + d → d < m → BY I b n → (∀ u, u < t → I 36 u = nI ((tkN b n).1 u)) → (∀ u, u < N → I 37 u = nI (sN b n u) ∧ I 38 u = nI (pN b n (u + 1))) → ∃ I', smx CT I I' ∧ FT I' b n N ∧ B_X6_split_73 fu 34 (nI N) m (mkX q I) (nI t) = some (mkX q I') := by
  intro d
  induction d with
  | zero =>
    intro t m I ht hm hB hk hs
    obtain ⟨m, rfl⟩ : ∃ z, m = z + 1 := ⟨m - 1, by omega⟩
    obtain rfl : N = t := by omega
    have hn := hB.1
    show ∃ I', _ ∧ _ ∧ L_X6_split_73 _ _ _ _ _ _ = _
    unfold L_X6_split_73
    refine ⟨up2 (up2 I 36 N 0) 37 N (nI n), smx_tr (smx_up (Or.inl rfl)) (smx_up (Or.inr (Or.inl rfl))), ⟨fun u hu => ?_, fun u hu => ?_⟩, ?_⟩
    · rw [up2_o (by decide), up2_row, up2_row, up2_o (by decide)]
      by_cases e : u = N
      · rw [if_pos e, if_pos e, e, hNn]
        exact ⟨congrArg nI (show 0 = (if sN b n N = n then 0 else kN b (sN b n N) (pN b n (N + 1))) by rw [if_pos hNn]), rfl⟩
      · rw [if_neg e, if_neg e]
        exact ⟨hk u (by omega), (hs u (by omega)).1⟩
    · rw [up2_o (by decide), up2_o (by decide)]
      exact (hs u hu).2
    · rw [if_pos (nI_le (Nat.le_refl _) (by omega)), T_r2, bind_some', st3 (Or.inl rfl) (by omega), bind_some', T_r3, bind_some', T_gI, bind_some', up2_o (by decide), hB.2.1, st3 (Or.inr (Or.inl rfl)) (by omega), bind_some']
  | succ d ih =>
    intro t m I ht hm hB hk hs
    obtain ⟨m, rfl⟩ : ∃ z, m = z + 1 := ⟨m - 1, by omega⟩
    have hn := hB.1
    have h1 := hlt t (by omega)
    have h2 := pN_lt h1
    have h3 := pN_le (b := b) (n := n) (t + 1)
    obtain ⟨hs1, hs2⟩ := hs t (by omega)
    have hk2 : (tkN b n).1 t = kN b (sN b n t) (pN b n (t + 1)) := if_neg (by omega)
    obtain ⟨I', g1, g2, g3⟩ := ih (t + 1) m (up2 I 36 t (nI ((tkN b n).1 t))) (by omega) (by omega) (BY_s hB (smx_up (Or.inl rfl))) (fun u hu => by
      rw [up2_row]
      by_cases e : u = t
      · rw [if_pos e, e]
      · rw [if_neg e]
        exact hk u (by omega)) (fun u hu => by rw [up2_o (by decide), up2_o (by decide)]; exact hs u hu)
    refine ⟨I', smx_tr (smx_up (Or.inl rfl)) g1, g2, ?_⟩
    show L_X6_split_73 _ _ _ _ _ _ = _
    unfold L_X6_split_73
    rw [if_neg (nI_ge (show t < N by omega) (by omega)), T_r2, bind_some', T_r3, bind_some', at3 (Or.inr (Or.inl rfl)) (by omega), b2_some, T_r4, bind_some', at3 (Or.inr (Or.inr rfl)) (by omega), b2_some, X_ob34, bind_some', hs1, hs2, c_kind hB h2 h3 hfu, b2_some, ← hk2, st3 (Or.inl rfl) (by omega), bind_some', nI_1]
    exact g3
def SI (I : Nat → Nat → Int32) (b : Nat → Nat) (n c i : Nat) : Prop := (∀ t, t < c → I 37 t = nI (sN b n t) ∧ I 38 t = nI (min (pN b n (t + 1)) i) ∧ sN b n t < n) ∧ ((pN b n c ≤ i ∧ i ≤ sN b n c) ∨ (0 < c ∧ sN b n (c - 1) < i ∧ i < pN b n c))
theorem c_splitL {q : Xp} {b : Nat → Nat} {n fu : Nat} (hfu : 400 < fu) : ∀ d i c m (I : Nat → Nat → Int32), n = i + d → d < m → BY I b n → SI I b n c i → ∃ N I', (N ≤ n ∧ sN b n N = n ∧ ∀ t, t < N → sN b n t < n) ∧ smx CT I I' ∧ FT I' b n N ∧ B_X6_split_4 fu 34 m (mkX q I) (nI c) (nI i) = some (mkX q I') := by
  intro d
  induction d with
  | zero =>
    intro i c m I hi hm hB hS
    obtain ⟨m, rfl⟩ : ∃ z, m = z + 1 := ⟨m - 1, by omega⟩
    obtain rfl : n = i := by omega
    obtain ⟨s1, s2⟩ := hS
    have hn := hB.1
    have hp := pN_le (b := b) (n := n) c
    have hs := (sN_sp (b := b) (n := n) (t := c)).2.1
    have hc : sN b n c = n := by omega
    have hcn := pN_ge (b := b) (n := n) c (fun u hu => (s1 u hu).2.2)
    obtain ⟨I', g1, g2, g3⟩ := c_kindsL (q := q) (b := b) (n := n) (N := c) (fu := fu) (by omega) hc (fun t ht => (s1 t ht).2.2) (by omega) c 0 fu I (by omega) (by omega) hB (fun u hu => by omega) (fun u hu => by
      have := pN_le (b := b) (n := n) (u + 1)
      have g := (s1 u hu).2.1
      rw [Nat.min_eq_left this] at g
      exact ⟨(s1 u hu).1, g⟩)
    refine ⟨c, I', ⟨by omega, hc, fun t ht => (s1 t ht).2.2⟩, g1, g2, ?_⟩
    show L_X6_split_4 _ _ _ _ _ _ = _
    unfold L_X6_split_4
    rw [T_gI, bind_some', hB.2.1, if_pos (nI_le (Nat.le_refl _) (by omega))]
    exact g3
  | succ d ih =>
    intro i c m I hi hm hB hS
    obtain ⟨m, rfl⟩ : ∃ z, m = z + 1 := ⟨m - 1, by omega⟩
    have hn := hB.1
    obtain ⟨s1, s2⟩ := hS
    have hcn := pN_ge (b := b) (n := n) c (fun u hu => (s1 u hu).2.2)
    have hpn := pN_le (b := b) (n := n) c
    have hx := (hB.2.2 i (by omega)).2
    obtain ⟨p1, p2, p3, p4⟩ := sN_sp (b := b) (n := n) (t := c)
    have hd : ∀ (N : Nat) (I' : Nat → Nat → Int32), L_X6_split_4 (B_X6_split_4 fu 34 m) fu 34 (mkX q I) (nI c) (nI i) = some (mkX q I') → B_X6_split_4 fu 34 (m + 1) (mkX q I) (nI c) (nI i) = some (mkX q I') := fun _ _ h => h
    have hmono : ∀ t, t < c → pN b n (t + 1) ≤ pN b n c := by
      intro t ht
      have key : ∀ k, t + 1 + k ≤ c → pN b n (t + 1) ≤ pN b n (t + 1 + k) := by
        intro k
        induction k with
        | zero => intro _; exact Nat.le_refl _
        | succ k ih2 =>
          intro hk
          have a1 := ih2 (by omega)
          have a2 := pN_lt (s1 (t + 1 + k) (by omega)).2.2
          have a3 := (sN_sp (b := b) (n := n) (t := t + 1 + k)).1
          rw [show t + 1 + (k + 1) = t + 1 + k + 1 by omega]
          omega
      have := key (c - (t + 1)) (by omega)
      rw [show t + 1 + (c - (t + 1)) = c by omega] at this
      exact this
    rcases s2 with ⟨s2, s3⟩ | ⟨s2, s3, s4⟩
    · by_cases hi2 : i < sN b n c
      · -- a blank
        have hbl := p3 i s2 hi2
        obtain ⟨N, I', g1, g2, g3, g4⟩ := ih (i + 1) c m I (by omega) (by omega) hB ⟨fun t ht => by
          obtain ⟨a1, a2, a3⟩ := s1 t ht
          have := hmono t ht
          rw [Nat.min_eq_left (by omega)] at a2
          rw [Nat.min_eq_left (by omega)]
          exact ⟨a1, a2, a3⟩, Or.inl ⟨by omega, by omega⟩⟩
        refine ⟨N, I', g1, g2, g3, hd N I' ?_⟩
        unfold L_X6_split_4 B_X6_split_48 B_X6_split_65
        rw [T_gI, bind_some', hB.2.1, if_neg (nI_ge (show i < n by omega) (by omega)), T_r0, bind_some', at35 hB (by omega), b2_some, c_blank hx, b2_some, hbl, if_neg bIt, if_neg bIt, nI_1]
        exact g4
      · -- a start
        have es : sN b n c = i := by omega
        have hsl : sN b n c < n := by omega
        have hbl := p4 hsl
        rw [es] at hbl
        have hgo : (if i = 0 then false else gO b i) = false := by
          by_cases h0 : i = 0
          · rw [if_pos h0]
          · rw [if_neg h0]
            have := sN_go (b := b) (n := n) (t := c) (fun u hu => (s1 u hu).2.2) hsl (by omega)
            rw [es] at this
            exact this
        have hpl := pN_lt hsl
        have hpl2 := pN_le (b := b) (n := n) (c + 1)
        have s37 : smx CT I (up2 (up2 I 37 c (nI i)) 38 c (nI (i + 1))) := smx_tr (smx_up (Or.inr (Or.inl rfl))) (smx_up (Or.inr (Or.inr rfl)))
        obtain ⟨N, I', g1, g2, g3, g4⟩ := ih (i + 1) (c + 1) m (up2 (up2 I 37 c (nI i)) 38 c (nI (i + 1))) (by omega) (by omega) (BY_s hB s37) ⟨fun t ht => by
          rw [up2_o (by decide), up2_row, up2_row, up2_o (by decide)]
          by_cases e : t = c
          · rw [if_pos e, if_pos e, e, es, Nat.min_eq_right (by omega)]
            exact ⟨rfl, rfl, by omega⟩
          · obtain ⟨a1, a2, a3⟩ := s1 t (by omega)
            have := hmono t (by omega)
            rw [if_neg e, if_neg e]
            rw [Nat.min_eq_left (by omega)] at a2
            rw [Nat.min_eq_left (by omega)]
            exact ⟨a1, a2, a3⟩, by
            by_cases e : pN b n (c + 1) = i + 1
            · have := (sN_sp (b := b) (n := n) (t := c + 1)).1
              exact Or.inl ⟨by omega, by omega⟩
            · refine Or.inr ⟨by omega, ?_, by omega⟩
              rw [Nat.add_sub_cancel]
              omega⟩
        refine ⟨N, I', g1, smx_tr s37 g2, g3, hd N I' ?_⟩
        unfold L_X6_split_4 B_X6_split_48 B_X6_split_65
        rw [T_gI, bind_some', hB.2.1, if_neg (nI_ge (show i < n by omega) (by omega)), T_r0, bind_some', at35 hB (by omega), b2_some, c_blank hx, b2_some, hbl, if_pos bIf, X_ob34, bind_some', c_goes hB (by omega), b2_some, hgo, if_pos bIf, T_r3, bind_some', st3 (Or.inr (Or.inl rfl)) (by omega), bind_some', if_pos bIf, T_r4, bind_some', nI_1, nI_pred, nI_1, st3 (Or.inr (Or.inr rfl)) (by omega), bind_some']
        exact g4
    · -- in a token
      obtain ⟨c, rfl⟩ : ∃ z, c = z + 1 := ⟨c - 1, by omega⟩
      rw [Nat.add_sub_cancel] at s3
      have hsl := (s1 c (by omega)).2.2
      have hgb : gO b i = true ∧ blB (b i) = false := by
        rw [pN_s] at s4
        rcases en_sp (b := b) hsl with g | g
        · exact g.2.2.1 i s3 s4
        · exact g.2.2 i s3 s4
      have hgo : (if i = 0 then false else gO b i) = true := by rw [if_neg (by omega)]; exact hgb.1
      have s38 : smx CT I (up2 I 38 c (nI (i + 1))) := smx_up (Or.inr (Or.inr rfl))
      obtain ⟨N, I', g1, g2, g3, g4⟩ := ih (i + 1) (c + 1) m (up2 I 38 c (nI (i + 1))) (by omega) (by omega) (BY_s hB s38) ⟨fun t ht => by
        rw [up2_o (by decide), up2_row]
        obtain ⟨a1, a2, a3⟩ := s1 t ht
        by_cases e : t = c
        · rw [if_pos e, e, Nat.min_eq_right (by omega)]
          rw [e] at a1 a3
          exact ⟨a1, rfl, a3⟩
        · rw [if_neg e]
          have h5 := pN_lt (s1 c (by omega)).2.2
          have h6 : pN b n (t + 1) ≤ sN b n c := by
            have key : ∀ k, t + 1 + k ≤ c → pN b n (t + 1) ≤ pN b n (t + 1 + k) := by
              intro k
              induction k with
              | zero => intro _; exact Nat.le_refl _
              | succ k ih2 =>
                intro hk
                have a1 := ih2 (by omega)
                have a2 := pN_lt (s1 (t + 1 + k) (by omega)).2.2
                have a3 := (sN_sp (b := b) (n := n) (t := t + 1 + k)).1
                rw [show t + 1 + (k + 1) = t + 1 + k + 1 by omega]
                omega
            have a := key (c - (t + 1)) (by omega)
            rw [show t + 1 + (c - (t + 1)) = c by omega] at a
            have := (sN_sp (b := b) (n := n) (t := c)).1
            omega
          rw [Nat.min_eq_left (by omega)] at a2
          rw [Nat.min_eq_left (by omega)]
          exact ⟨a1, a2, a3⟩, by
          by_cases e : pN b n (c + 1) = i + 1
          · have := (sN_sp (b := b) (n := n) (t := c + 1)).1
            exact Or.inl ⟨by omega, by omega⟩
          · refine Or.inr ⟨by omega, ?_, by omega⟩
            rw [Nat.add_sub_cancel]
            omega⟩
      refine ⟨N, I', g1, smx_tr s38 g2, g3, hd N I' ?_⟩
      unfold L_X6_split_4 B_X6_split_48 B_X6_split_65
      rw [T_gI, bind_some', hB.2.1, if_neg (nI_ge (show i < n by omega) (by omega)), T_r0, bind_some', at35 hB (by omega), b2_some, c_blank hx, b2_some, hgb.2, if_pos bIf, X_ob34, bind_some', c_goes hB (by omega), b2_some, hgo, if_neg bIt, if_pos bIf, T_r4, bind_some', nI_pred, nI_1, st3 (Or.inr (Or.inr rfl)) (by omega), bind_some']
      exact g4
def BZ (I : Nat → Nat → Int32) (b : Nat → Nat) (n : Nat) : Prop := n ≤ 160 ∧ ∀ i, i < n → I 35 i = nI (b i) ∧ b i < 256
theorem at35z {q : Xp} {I : Nat → Nat → Int32} {b : Nat → Nat} {n i : Nat} (h : BZ I b n) (hi : i < n) : F_X7_at (mkX q I) (some 35) (nI i) = some (nI (b i), mkX q I) := by
  have : F_X7_at (mkX q I) (some 35) (nI i) = some (I 35 i, mkX q I) := X_at 160 (by decide) rfl (by have := h.1; omega) (by decide)
  rw [this, (h.2 i hi).1]
theorem c_numL {q : Xp} {I : Nat → Nat → Int32} {b : Nat → Nat} {n s e t fu : Nat} (hB : BZ I b n) (ht : t ≤ 160) (h38 : I 38 t = nI e) (hse : s ≤ e) (he : e ≤ n) (hdg : ∀ i, s ≤ i → i < e → dgB (b i) = true) : ∀ d k m, e = s + k + d → d < m → B_X6_numberAt_11 fu 34 (nI t) m (mkX q I) (nI (nv b s k)) (nI (s + k)) = some (nI (nv b s (e - s)), mkX q I) := by
  have hn := hB.1
  intro d
  induction d with
  | zero =>
    intro k m hk hm
    obtain ⟨m, rfl⟩ : ∃ z, m = z + 1 := ⟨m - 1, by omega⟩
    show L_X6_numberAt_11 _ _ _ _ _ _ _ = _
    unfold L_X6_numberAt_11
    rw [T_r4, bind_some', at3 (Or.inr (Or.inr rfl)) ht, b2_some, h38, if_pos (nI_le (by omega) (by omega)), show e - s = k by omega]
  | succ d ih =>
    intro k m hk hm
    obtain ⟨m, rfl⟩ : ∃ z, m = z + 1 := ⟨m - 1, by omega⟩
    have hd := of_decide_eq_true (hdg (s + k) (by omega) (by omega))
    show L_X6_numberAt_11 _ _ _ _ _ _ _ = _
    unfold L_X6_numberAt_11
    rw [T_r4, bind_some', at3 (Or.inr (Or.inr rfl)) ht, b2_some, h38, if_neg (nI_ge (show s + k < e by omega) (by omega)), T_r0, bind_some', at35z hB (by omega), b2_some, lit 10, nI_mul, nI_add, lit 48, pk_sub (by omega), nI_1, show 10 * nv b s k + b (s + k) - 48 = nv b s (k + 1) by show _ = 10 * nv b s k + (b (s + k) - 48); omega]
    exact ih (k + 1) m (by omega) (by omega)
theorem c_num {q : Xp} {I : Nat → Nat → Int32} {b : Nat → Nat} {n N t fu : Nat} (hB : BZ I b n) (hF : FT I b n N) (hN : N ≤ n) (hNn : sN b n N = n) (ht : t ≤ N) (hk : (tkN b n).1 t = 2) (hfu : 400 < fu) : F_X6_numberAt fu (mkX q I) 34 (nI t) = some (nI ((tkN b n).2 t), mkX q I) := by
  have hn := hB.1
  obtain ⟨h1, h2, h3⟩ := tk_2 hk
  have hne : t ≠ N := fun e => by rw [e, hNn] at h1; omega
  have h4 := pN_lt h1
  have h5 := pN_le (b := b) (n := n) (t + 1)
  unfold F_X6_numberAt
  rw [T_r3, bind_some', at3 (Or.inr (Or.inl rfl)) (by omega), b2_some, (hF.1 t ht).2]
  exact c_numL (s := sN b n t) hB (by omega) (hF.2 t (by omega)) (by omega) h5 (num_dg h1 h2) (pN b n (t + 1) - sN b n t) 0 fu (by omega) (by omega)
theorem c_split {q : Xp} {I : Nat → Nat → Int32} {b : Nat → Nat} {n fu : Nat} (hB : BY I b n) (hfu : 400 < fu) : ∃ N I', (N ≤ n ∧ sN b n N = n ∧ ∀ t, t < N → sN b n t < n) ∧ smx CT I I' ∧ TK q fu I' (tkN b n) N (sN b n) ∧ F_X6_split fu (mkX q I) 34 = some (mkX q I') := by
  have hn := hB.1
  obtain ⟨N, I', g1, g2, g3, g4⟩ := c_splitL (q := q) (b := b) (n := n) (fu := fu) hfu n 0 0 fu I (by omega) (by omega) hB ⟨fun t ht => by omega, Or.inl ⟨Nat.le_refl _, Nat.zero_le _⟩⟩
  refine ⟨N, I', g1, g2, ⟨g3.1, fun t ht hk I2 h2 => ?_⟩, g4⟩
  have hB2 : BZ I2 b n := by
    have h1 := BY_s hB g2
    unfold BZ
    rw [h2 35 (by decide) (by decide)]
    exact ⟨hn, h1.2.2⟩
  refine c_num hB2 ?_ g1.1 g1.2.1 ht hk hfu
  unfold FT
  rw [h2 36 (by decide) (by decide), h2 37 (by decide) (by decide), h2 38 (by decide) (by decide)]
  exact g3
