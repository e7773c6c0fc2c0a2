/-! THE REFERENCE, its small methods -/
theorem m_in {S : Hp} {x a b : Int32} : F_X8_in S x a b = some (bI (decide (a ≤ x ∧ x ≤ b)), S) := by
  unfold F_X8_in B_X8_in_14 B_X8_in_15
  by_cases h1 : x < a
  · have : ¬ (a ≤ x ∧ x ≤ b) := by
      rw [le_I, le_I]
      rw [lt_I] at h1
      omega
    rw [if_pos h1, decide_eq_false this]
    rfl
  · by_cases h2 : b < x
    · have : ¬ (a ≤ x ∧ x ≤ b) := by
        rw [le_I, le_I]
        rw [lt_I] at h2
        omega
      rw [if_neg h1, if_pos h2, decide_eq_false this]
      rfl
    · have : a ≤ x ∧ x ≤ b := by
        rw [le_I, le_I]
        rw [lt_I] at h1 h2
        omega
      rw [if_neg h1, if_neg h2, decide_eq_true this]
      rfl
theorem m_within {S : Hp} {x a b : Int32} : F_X8_within S x a b = some (clamp x a b, S) := by
  unfold F_X8_within B_X8_within_19 clamp
  by_cases h1 : a ≤ x
  · by_cases h2 : x ≤ b
    · rw [if_pos h1, if_pos h2, if_pos h1, if_pos h2]
    · rw [if_pos h1, if_neg h2, if_pos h1, if_neg h2]
  · rw [if_neg h1, if_neg h1]
theorem m_bitsL {S : Hp} {x : Int32} {fu : Nat} : ∀ (d k n : Nat), k + d = 10 → d < n → B_X8_bitsOf_4 fu x n S (fold (fun k n => n + ((x >>> (nI k &&& 31)) &&& (1 : Int32))) k 0) (nI k) = some (popc x, S) := by
  intro d
  induction d with
  | zero =>
    intro k n hk hn
    obtain ⟨n, rfl⟩ : ∃ q, n = q + 1 := ⟨n - 1, by omega⟩
    obtain rfl : k = 10 := by omega
    show L_X8_bitsOf_4 _ _ _ _ _ _ = _
    unfold L_X8_bitsOf_4
    rw [if_pos (by decide)]
    rfl
  | succ d ih =>
    intro k n hk hn
    obtain ⟨n, rfl⟩ : ∃ q, n = q + 1 := ⟨n - 1, by omega⟩
    show L_X8_bitsOf_4 _ _ _ _ _ _ = _
    unfold L_X8_bitsOf_4
    rw [if_neg (by rw [lit 10]; exact nI_ge (by omega) (by omega)), nI_1]
    exact ih (k + 1) n (by omega) (by omega)
theorem m_bits {S : Hp} {x : Int32} {fu : Nat} (hf : 10 < fu) : F_X8_bitsOf fu S x = some (popc x, S) := m_bitsL 10 0 fu rfl hf
theorem in0 {x : Int32} {P : Nat} (hP : P < 2 ^ 30) : decide ((0 : Int32) ≤ x ∧ x ≤ nI P - 1) = inb x P := by
  rw [Bool.eq_iff_iff, inb_iff, decide_eq_true_iff, le_I, le_I]
  have e : (nI P - 1).toInt = (P : Int) - 1 := pk_sub_toInt (b := 1) hP (by decide)
  rw [e]
  have e0 : (0 : Int32).toInt = 0 := rfl
  rw [e0]
  omega
theorem m_isOne {J : Nat → Nat → Int32} {x : Int32} {P : Nat} (h : J 0 0 = nI P) (hP : P ≤ 6) : F_X8_isOne (mkM J) 0 x = some (bI (inb x P), mkM J) := by
  unfold F_X8_isOne
  rw [M_gI, bind_some', h, m_in, b2_some, in0 (by omega), zb_bI]
theorem m_isWrong {J : Nat → Nat → Int32} {x : Int32} {W : Nat} (h : J 0 7 = nI W) (hW : W ≤ 10) : F_X8_isWrong (mkM J) 0 x = some (bI (inb x W), mkM J) := by
  unfold F_X8_isWrong
  rw [M_gI, bind_some', h, m_in, b2_some, in0 (by omega), zb_bI]
theorem m_did {J : Nat → Nat → Int32} {p : Int32} {k : Nat} (hk : k < 10) : F_X8_did (mkM J) 0 p (nI k) = some (bI (bt (J 4 k) p), mkM J) := by
  unfold F_X8_did B_X8_did_19
  rw [M_r4, bind_some', M_g4 hk, bind_some']
  by_cases h : ((J 4 k >>> (p &&& 31)) &&& (1 : Int32)) = 1
  · rw [if_pos h, bt, decide_eq_true h]
    rfl
  · rw [if_neg h, bt, decide_eq_false h]
    rfl
theorem m_saw0 {J : Nat → Nat → Int32} {p : Int32} {k : Nat} (hk : k < 10) : F_X8_saw0 (mkM J) 0 p (nI k) = some (bI (bt (J 6 k) p), mkM J) := by
  unfold F_X8_saw0 B_X8_saw0_19
  rw [M_r6, bind_some', M_g6 hk, bind_some']
  by_cases h : ((J 6 k >>> (p &&& 31)) &&& (1 : Int32)) = 1
  · rw [if_pos h, bt, decide_eq_true h]
    rfl
  · rw [if_neg h, bt, decide_eq_false h]
    rfl
theorem m_two {S : Hp} {x a b : Int32} (hx : x ≠ 13) : F_X8_two S x a b = some (two x a b, S) := by
  unfold F_X8_two two B_X8_two_93 B_X8_two_82 B_X8_two_70 B_X8_two_52 B_X8_two_71 B_X8_two_57
  by_cases h11 : x = 11
  · subst h11
    by_cases ha : a = 0 <;> by_cases hb : b = 0 <;> simp [ha, hb]
  by_cases h12 : x = 12
  · subst h12
    by_cases ha : a = 0 <;> by_cases hb : b = 0 <;> simp [ha, hb]
  by_cases h14 : x = 14
  · subst h14
    by_cases ha : b ≤ a <;> simp [ha]
  by_cases h15 : x = 15
  · subst h15
    by_cases ha : a = b <;> simp [ha]
  by_cases h16 : x = 16
  · subst h16
    simp
  by_cases h17 : x = 17
  · subst h17
    simp
  simp [h11, h12, hx, h14, h15, h16, h17]
/-- the stack lies in a row -/
def stR : List Int32 → (Nat → Int32) → Prop
  | [], _ => True
  | a :: r, R => R r.length = a ∧ stR r R
theorem stR_up {J : Nat → Nat → Int32} {b j : Nat} {v : Int32} : ∀ {st : List Int32}, stR st (J b) → st.length ≤ j → stR st (up2 J b j v b)
  | [], _, _ => trivial
  | a :: r, h, hj => ⟨by rw [up2_j (by simp at hj; omega)]; exact h.1, stR_up h.2 (by simp at hj; omega)⟩
theorem rst_num {f : Nat → Int32} {n : Nat} {st : List Int32} (hn : n < 10000) : rst f (nI (100000 + n)) st = (nI (100000 + n) - 100000) :: st := by
  unfold rst
  rw [if_pos (by rw [lit 100000]; exact nI_le (by omega) (by omega))]
theorem rst_nam {f : Nat → Int32} {n : Nat} {st : List Int32} (hn : n < 6) : rst f (nI n) st = f n :: st := by
  unfold rst
  rw [if_neg (by rw [lit 100000]; exact nI_ge (by omega) (by omega)), if_pos (by rw [lit 11]; exact nI_lt (by omega) (by omega)), nI_clamp (by omega)]
theorem len1 {st : List Int32} (h : 1 ≤ st.length) : ∃ a t, st = a :: t := by
  cases st with
  | nil => simp at h
  | cons a t => exact ⟨a, t, rfl⟩
theorem m_saysL {J : Nat → Nat → Int32} {e : Ev} {r part fu : Nat} {f : Nat → Int32} (hr : r < 6) (hpart : part < 3) (h0 : J 0 14 = nI r) (hb : ∀ i, i ≤ 3 → J 9 (4 * r + i) = nI (vBnd e i)) (hc : ∀ i, i < vBnd e 3 → J 8 (200 * r + i) = vCode e i) (h3 : vBnd e (part + 1) ≤ vBnd e 3) (h160 : vBnd e 3 ≤ 160) (hf : ∀ i, i < 6 → J 19 i = f i) :
    ∀ (n i m : Nat) (J' : Nat → Nat → Int32) (st : List Int32), i + n = vBnd e (part + 1) → wfs (vCode e) n i st.length → stR st (J' 18) → st.length ≤ i → sme [18] J J' → n < m →
      ∃ J'', B_X8_says_16 fu 0 (nI part) m (mkM J') (nI st.length) (nI i) = some ((rr f (vCode e) n i st).headD 0, mkM J'') ∧ sme [18] J J'' := by
  intro n
  induction n with
  | zero =>
    intro i m J' st hi hw hs hl hsm hm
    obtain ⟨m, rfl⟩ : ∃ q, m = q + 1 := ⟨m - 1, by omega⟩
    have hw : st.length = 1 := hw
    obtain ⟨v, rfl⟩ : ∃ v, st = [v] := by
      match st, hw with
      | [v], _ => exact ⟨v, rfl⟩
    refine ⟨J', ?_, hsm⟩
    show L_X8_says_16 _ _ _ _ _ _ _ = _
    unfold L_X8_says_16
    rw [M_r12, bind_some', M_gI, bind_some', hsm 0 (by decide), h0, lit 4, lit 1, nI_mul, nI_add, nI_add, M_g9 (by omega), bind_some', hsm 9 (by decide), Nat.add_assoc, hb (part + 1) (by omega), if_pos (nI_le (by omega) (by omega)), M_r31, bind_some', lit 0, M_g18 (by omega), bind_some']
    have e1 : J' 18 0 = v := hs.1
    rw [e1]
    rfl
  | succ n ih =>
    intro i m J' st hi hw hs hl hsm hm
    obtain ⟨m, rfl⟩ : ∃ q, m = q + 1 := ⟨m - 1, by omega⟩
    obtain ⟨hv, hn, hw⟩ := hw
    have hci := hc i (by omega)
    show ∃ J'', L_X8_says_16 _ _ _ _ _ _ _ = _ ∧ _
    unfold L_X8_says_16
    rw [M_r12, bind_some', M_gI, bind_some', hsm 0 (by decide), h0, lit 4, lit 1, nI_mul, nI_add, nI_add, M_g9 (by omega), bind_some', hsm 9 (by decide), Nat.add_assoc, hb (part + 1) (by omega), if_neg (nI_ge (by omega) (by omega)), M_r11, bind_some', bind_some', lit 200, nI_mul, nI_add, M_g8 (by omega), bind_some', hsm 8 (by decide), hci]
    show ∃ J'', _ = some ((rr f (vCode e) n (i + 1) (rst f (vCode e i) st)).headD 0, mkM J'') ∧ _
    have push : ∀ v : Int32, st.length + 1 = hst (vCode e i) st.length → ∃ J'', B_X8_says_93 (B_X8_says_16 fu 0 (nI part) m) fu 0 (mkM J') (nI part) (nI st.length) (nI i) v (nI st.length) (some 18) = some ((rr f (vCode e) n (i + 1) (v :: st)).headD 0, mkM J'') ∧ sme [18] J J'' := by
      intro v hh
      unfold B_X8_says_93 B_X8_says_191
      rw [M_p18 (by omega), bind_some', lit 1, nI_add, nI_add]
      exact ih (i + 1) m _ (v :: st) (by omega) (by rw [List.length_cons, hh]; exact hw) ⟨up2_s, stR_up hs (Nat.le_refl _)⟩ (by simp; omega) (sme_tr hsm (sme_up (by decide))) (by omega)
    have one : ∀ (a v : Int32) (t : List Int32), st = a :: t → st.length = hst (vCode e i) st.length → ∃ J'', B_X8_says_130 (B_X8_says_16 fu 0 (nI part) m) fu 0 (mkM J') (nI part) (nI st.length) (nI i) v (nI st.length - nI 1) (some 18) = some ((rr f (vCode e) n (i + 1) (v :: t)).headD 0, mkM J'') ∧ sme [18] J J'' := by
      intro a v t hst' hh
      unfold B_X8_says_130 B_X8_says_191
      have hlt : st.length = t.length + 1 := by rw [hst']; rfl
      rw [pk_sub (by omega), M_p18 (by omega), bind_some', lit 1, nI_add]
      have h2 : stR t (J' 18) := by rw [hst'] at hs; exact hs.2
      have := ih (i + 1) m (up2 J' 18 (st.length - 1) v) (v :: t) (by omega) (by rw [List.length_cons, ← hlt, hh]; exact hw) ⟨by rw [hlt]; exact up2_s, stR_up h2 (by omega)⟩ (by simp; omega) (sme_tr hsm (sme_up (by decide))) (by omega)
      rw [List.length_cons, ← hlt] at this
      exact this
    have bin : ∀ x : Int32, vCode e i = x → x ≠ 13 → ¬ (100000 : Int32) ≤ x → (11 : Int32) ≤ x → ¬ x < 11 → x ≠ 19 → ∃ J'', (gR (mkM J') (some 0) 6 31).bind (fun v165 => (gR (mkM J') (some 0) 6 31).bind fun v174 => (aG (mkM J') v174 ((nI st.length + (-1 : Int32)) - (nI 1))).bind fun v180 => (gR (mkM J') (some 0) 6 31).bind fun v182 => (aG (mkM J') v182 (nI st.length + (-1 : Int32))).bind fun v186 => b2 (F_X8_two (mkM J') x v180 v186) fun v187 S187 => (aP S187 v165 ((nI st.length + (-1 : Int32)) - (nI 1)) v187).bind fun S190 => B_X8_says_191 (B_X8_says_16 fu 0 (nI part) m) fu 0 S190 (nI part) (nI st.length + (-1 : Int32)) (nI i)) = some ((rr f (vCode e) n (i + 1) (rst f x st)).headD 0, mkM J'') ∧ sme [18] J J'' := by
      intro x hx h13 h1 h11 h11' h19
      have hn2 : 2 ≤ st.length := by
        rw [hx] at hn
        simpa [nst, h1, h11', h13, h19] using hn
      obtain ⟨b, a, t, rfl⟩ : ∃ b a t, st = b :: a :: t := by
        match st, hn2 with
        | b :: a :: t, _ => exact ⟨b, a, t, rfl⟩
      have e1 : nI (b :: a :: t).length + (-1 : Int32) = nI (t.length + 1) := pk_m1 (t.length + 1)
      rw [e1, pk_sub (by omega), Nat.add_sub_cancel, M_r31, bind_some', bind_some', M_g18 (by simp at hl; omega), bind_some', bind_some', M_g18 (by simp at hl; omega), bind_some', m_two h13, b2_some, M_p18 (by simp at hl; omega), bind_some']
      unfold B_X8_says_191
      rw [lit 1, nI_add]
      have ea : J' 18 t.length = a := hs.2.1
      have eb : J' 18 (t.length + 1) = b := hs.1
      rw [ea, eb]
      have er : rst f x (b :: a :: t) = two x a b :: t := by simp [rst, h1, h11', h13, h19]
      rw [er]
      have hh : hst x (b :: a :: t).length = t.length + 1 := by simp [hst, h1, h11', h13, h19]
      rw [hx, hh] at hw
      exact ih (i + 1) m _ (two x a b :: t) (by omega) hw ⟨up2_s, stR_up hs.2.2 (Nat.le_refl _)⟩ (by simp at hl ⊢; omega) (sme_tr hsm (sme_up (by decide))) (by omega)
    rcases hv with ⟨q, hq, hx⟩ | ⟨q, hq, hx⟩ | hx | hx | hx | hx | hx | hx | hx | hx | hx
    · rw [hx, if_pos (by rw [lit 100000]; exact nI_le (by omega) (by omega)), rst_num hq]
      unfold B_X8_says_66
      rw [M_r31, bind_some', if_pos (by rw [lit 11]; exact nI_le (by omega) (by omega))]
      exact push _ (by rw [hx]; simp [hst, show (100000 : Int32) ≤ nI (100000 + q) from by rw [lit 100000]; exact nI_le (by omega) (by omega)])
    · have n1 : ¬ (100000 : Int32) ≤ nI q := by rw [lit 100000]; exact nI_ge (by omega) (by omega)
      have n2 : ¬ (11 : Int32) ≤ nI q := by rw [lit 11]; exact nI_ge (by omega) (by omega)
      have n3 : nI q < (11 : Int32) := by rw [lit 11]; exact nI_lt (by omega) (by omega)
      rw [hx, if_neg n1, if_neg n2, rst_nam hq]
      unfold B_X8_says_66
      rw [M_r31, bind_some', if_neg n2, M_r32, bind_some', M_g19 hq, bind_some', hsm 19 (by decide), hf q hq]
      exact push _ (by rw [hx]; simp [hst, n1, n3])
    · rw [hx, if_neg (by decide), if_pos (by decide), if_neg (by decide), if_neg (by decide)]
      exact bin 11 hx (by decide) (by decide) (by decide) (by decide) (by decide)
    · rw [hx, if_neg (by decide), if_pos (by decide), if_neg (by decide), if_neg (by decide)]
      exact bin 12 hx (by decide) (by decide) (by decide) (by decide) (by decide)
    · have hn1 : 1 ≤ st.length := by
        rw [hx] at hn
        exact hn
      obtain ⟨a, t, rfl⟩ := len1 hn1
      rw [hx, if_neg (by decide), if_pos (by decide), if_pos (by decide), M_r31, bind_some', bind_some', pk_sub (a := (a :: t).length) (b := 1) (by simp), M_g18 (by simp at hl ⊢; omega), bind_some']
      have ea : J' 18 ((a :: t).length - 1) = a := hs.1
      have er : rst f 13 (a :: t) = (if a = 0 then 1 else 0) :: t := rfl
      rw [ea, er]
      have := one a (if a = 0 then 1 else 0) t rfl (by rw [hx]; rfl)
      rw [pk_sub (a := (a :: t).length) (b := 1) (by simp)] at this
      by_cases hz : a = 0
      · rw [if_pos hz, if_pos hz]
        rw [if_pos hz] at this
        exact this
      · rw [if_neg hz, if_neg hz]
        rw [if_neg hz] at this
        exact this
    · rw [hx, if_neg (by decide), if_pos (by decide), if_neg (by decide), if_neg (by decide)]
      exact bin 14 hx (by decide) (by decide) (by decide) (by decide) (by decide)
    · rw [hx, if_neg (by decide), if_pos (by decide), if_neg (by decide), if_neg (by decide)]
      exact bin 15 hx (by decide) (by decide) (by decide) (by decide) (by decide)
    · rw [hx, if_neg (by decide), if_pos (by decide), if_neg (by decide), if_neg (by decide)]
      exact bin 16 hx (by decide) (by decide) (by decide) (by decide) (by decide)
    · rw [hx, if_neg (by decide), if_pos (by decide), if_neg (by decide), if_neg (by decide)]
      exact bin 17 hx (by decide) (by decide) (by decide) (by decide) (by decide)
    · rw [hx, if_neg (by decide), if_pos (by decide), if_neg (by decide), if_neg (by decide)]
      exact bin 18 hx (by decide) (by decide) (by decide) (by decide) (by decide)
    · have hn1 : 1 ≤ st.length := by
        rw [hx] at hn
        exact hn
      obtain ⟨a, t, rfl⟩ := len1 hn1
      rw [hx, if_neg (by decide), if_pos (by decide), if_neg (by decide), if_pos (by decide), M_r31, bind_some', bind_some', pk_sub (a := (a :: t).length) (b := 1) (by simp), M_g18 (by simp at hl ⊢; omega), bind_some']
      have ea : J' 18 ((a :: t).length - 1) = a := hs.1
      have er : rst f 19 (a :: t) = (-a) :: t := rfl
      rw [ea, er]
      have := one a (-a) t rfl (by rw [hx]; rfl)
      rw [pk_sub (a := (a :: t).length) (b := 1) (by simp)] at this
      exact this
theorem m_says {J : Nat → Nat → Int32} {e : Ev} {part fu : Nat} {f : Nat → Int32} (hpart : part < 3) (hL : LawM J e) (hok : okLaw e) (hf : ∀ i, i < 6 → J 19 i = f i) (hfu : 200 < fu) : ∃ J', F_X8_says fu (mkM J) 0 (nI part) = some (raw e part f, mkM J') ∧ sme [18] J J' := by
  obtain ⟨r, hr, h0, hb, hc⟩ := hL
  obtain ⟨o0, o1, o2, o3, o4, o5⟩ := hok
  have hmono : vBnd e part ≤ vBnd e (part + 1) ∧ vBnd e (part + 1) ≤ vBnd e 3 := by
    match part, hpart with
    | 0, _ => exact ⟨o1, Nat.le_trans o2 o3⟩
    | 1, _ => exact ⟨o2, o3⟩
    | 2, _ => exact ⟨o3, Nat.le_refl _⟩
  have key := m_saysL (fu := fu) hr hpart h0 hb hc hmono.2 o4 hf (vBnd e (part + 1) - vBnd e part) (vBnd e part) fu J [] (by omega) (o5 part hpart) trivial (Nat.zero_le _) sme_rf (by omega)
  unfold F_X8_says
  rw [M_r12, bind_some', M_gI, bind_some', h0, lit 4, nI_mul, nI_add, M_g9 (by omega), bind_some', hb part (by omega)]
  exact key
