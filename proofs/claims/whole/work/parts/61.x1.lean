/-! THE CLASS, its small methods -/
theorem x_hasBit {S : Hp} {x p : Int32} : F_X7_hasBit S x p = some (bI (bt x p), S) := by
  unfold F_X7_hasBit B_X7_hasBit_14
  by_cases h : ((x >>> (p &&& 31)) &&& (1 : Int32)) = 1
  · rw [if_pos h, bt, decide_eq_true h]
    rfl
  · rw [if_neg h, bt, decide_eq_false h]
    rfl
theorem x_fits {S : Hp} {x : Int32} {n : Nat} (hn : n < 2 ^ 31) : F_X7_fits S x (nI n) = some (bI (inb x n), S) := by
  unfold F_X7_fits B_X7_fits_13 B_X7_fits_14
  have e0 : (0 : Int32).toInt = 0 := rfl
  have en : (nI n).toInt = (n : Int) := nI_toInt hn
  by_cases h1 : x < 0
  · have : inb x n = false := by
      cases h : inb x n with
      | false => rfl
      | true =>
        rw [inb_iff] at h
        rw [lt_I, e0] at h1
        omega
    rw [if_pos h1, this]
    rfl
  · by_cases h2 : nI n ≤ x
    · have : inb x n = false := by
        cases h : inb x n with
        | false => rfl
        | true =>
          rw [inb_iff] at h
          rw [le_I, en] at h2
          omega
      rw [if_neg h1, if_pos h2, this]
      rfl
    · have : inb x n = true := by
        rw [inb_iff]
        rw [lt_I, e0] at h1
        rw [le_I, en] at h2
        omega
      rw [if_neg h1, if_neg h2, this]
      rfl
theorem x_zo {S : Hp} {x : Int32} : F_X7_isZeroOrOne S x = some (bI (inb x 2), S) := by
  unfold F_X7_isZeroOrOne B_X7_isZeroOrOne_9 B_X7_isZeroOrOne_14
  by_cases h0 : x = 0
  · subst h0
    rfl
  · by_cases h1 : x = 1
    · subst h1
      rfl
    · have : inb x 2 = false := by
        cases h : inb x 2 with
        | false => rfl
        | true =>
          rw [inb_iff] at h
          rw [eq_I] at h0 h1
          have e0 : (0 : Int32).toInt = 0 := rfl
          have e1 : (1 : Int32).toInt = 1 := rfl
          omega
      rw [if_neg h0, if_neg h1, this]
      rfl
theorem x_bounded {S : Hp} {v : Int32} {m : Nat} (hm : m < 2 ^ 31) : F_X7_bounded S v (nI m) = some (clamp v 0 (nI m), S) := by
  unfold F_X7_bounded clamp
  have e0 : (0 : Int32).toInt = 0 := rfl
  have en : (nI m).toInt = (m : Int) := nI_toInt hm
  have key : (if (0 : Int32) < (if v < nI m then v else nI m) then (if v < nI m then v else nI m) else (0 : Int32)) = if (0 : Int32) ≤ v then (if v ≤ nI m then v else nI m) else 0 := by
    rw [eq_I]
    by_cases h1 : v < nI m
    · rw [if_pos h1]
      rw [lt_I, en] at h1
      by_cases h2 : (0 : Int32) < v
      · rw [if_pos h2]
        rw [lt_I, e0] at h2
        rw [if_pos (by rw [le_I, e0]; omega), if_pos (by rw [le_I, en]; omega)]
      · rw [if_neg h2]
        rw [lt_I, e0] at h2
        by_cases h3 : (0 : Int32) ≤ v
        · rw [if_pos h3, if_pos (by rw [le_I, en]; omega)]
          rw [le_I, e0] at h3
          omega
        · rw [if_neg h3]
    · rw [if_neg h1]
      rw [lt_I, en] at h1
      rw [if_pos (show (0 : Int32) ≤ v by rw [le_I, e0]; omega)]
      by_cases h2 : (0 : Int32) < nI m
      · rw [if_pos h2]
        by_cases h3 : v ≤ nI m
        · rw [if_pos h3]
          rw [le_I, en] at h3
          omega
        · rw [if_neg h3]
      · rw [if_neg h2]
        rw [lt_I, e0, en] at h2
        by_cases h3 : v ≤ nI m
        · rw [if_pos h3]
          rw [le_I, en] at h3
          omega
        · rw [if_neg h3, en]
          omega
  rw [key]
def jb (x : Int32) : Int32 := match F_J6_bitCount_0f7a4 (0, ((fun _ => (0, 0)), ((fun _ _ => 0), (fun _ _ => none)))) x with
  | some (a, _) => a
  | none => 0
theorem x_bitCount' {S : Hp} {x : Int32} : F_J6_bitCount_0f7a4 S x = some (jb x, S) := rfl
theorem jb_popc : ∀ n, n < 1024 → jb (nI n) = popc (nI n) := by decide +kernel
theorem x_bitCount {S : Hp} {n : Nat} (hn : n < 1024) : F_J6_bitCount_0f7a4 S (nI n) = some (popc (nI n), S) := by
  rw [x_bitCount', jb_popc n hn]
def okEv (v : Ev) : Prop := (∀ p, p < vP v → (∃ k, k < 6 ∧ vKind v p = nI k) ∧ (∃ m, m < 10 ∧ vMore v p = nI m) ∧ (∃ r, r < 100 ∧ vPride v p = nI r) ∧ ∃ n, n < 1000 ∧ vName v p = nI n) ∧ ∀ k, k < vW v → (∃ d, d < 64 ∧ vDo v k = nI d) ∧ (∃ w, w < 10 ∧ vWt v k = nI w) ∧ ∃ d, d < 64 ∧ vSw v k = nI d
theorem x_work {S : Hp} {x y a b : Int32} (h : (x = 11 ∧ y = 13) ∨ (x = 12 ∧ y = 14) ∨ (x = 14 ∧ y = 60) ∨ (x = 15 ∧ y = 61) ∨ (x = 16 ∧ y = 43) ∨ (x = 17 ∧ y = 45) ∨ (x = 18 ∧ y = 42)) : F_X2_work S y a b = some (two x a b, S) := by
  unfold F_X2_work two B_X2_work_146 B_X2_work_135 B_X2_work_110 B_X2_work_92 B_X2_work_111 B_X2_work_97
  rcases h with ⟨rfl, rfl⟩ | ⟨rfl, rfl⟩ | ⟨rfl, rfl⟩ | ⟨rfl, rfl⟩ | ⟨rfl, rfl⟩ | ⟨rfl, rfl⟩ | ⟨rfl, rfl⟩
  · by_cases ha : a = 0 <;> by_cases hb : b = 0 <;> simp [ha, hb]
  · by_cases ha : a = 0 <;> by_cases hb : b = 0 <;> simp [ha, hb]
  · by_cases ha : b ≤ a <;> simp [ha]
  · by_cases ha : a = b <;> simp [ha]
  · simp
  · simp
  · simp
theorem x_workN {S : Hp} {a : Int32} : F_X2_work S 15 a 0 = some (if a = 0 then 1 else 0, S) := by
  unfold F_X2_work B_X2_work_121
  by_cases ha : a = 0 <;> simp [ha]
theorem x_workM {S : Hp} {a : Int32} : F_X2_work S 3 a 0 = some (-a, S) := by
  unfold F_X2_work
  simp
theorem neg_nI {n : Nat} (hn : n < 2 ^ 31) : ¬ (0 : Int32) < -nI n := by
  rw [lt_I]
  have e0 : (0 : Int32).toInt = 0 := rfl
  have : (-nI n).toInt = -(n : Int) := sb_negT hn
  rw [e0, this]
  omega
theorem negneg (x : Int32) : -(-x) = x := Int32.neg_neg
theorem x_valueL {q : Xp} {I : Nat → Nat → Int32} {v : Ev} {t e fu : Nat} {f : Nat → Int32} {en : Nat} (he : isE e) (ht : t < q.1) (hc3 : q.2.1 t = vBnd v 3) (h160 : vBnd v 3 ≤ 160) (hen : en ≤ vBnd v 3) (hc : ∀ i, i < vBnd v 3 → I (55 + 4 * t) i = tr (vCode v i)) (hf : ∀ i, i < 6 → I (e + 8) i = f i) :
    ∀ (n i m : Nat) (I' : Nat → Nat → Int32) (st : List Int32), i + n = en → wfs (vCode v) n i st.length → stR st (I' (56 + 4 * t)) → st.length ≤ i → smx ES I I' → n < m →
      ∃ I'', B_X2_value_44 fu (53 + 4 * t) (some (e + 8)) (nI en) m (mkX q I') (nI st.length) (nI i) = some ((rr f (vCode v) n i st).headD 0, mkX q I'') ∧ smx ES I I'' := by
  have hES : ES (56 + 4 * t) := ⟨by omega, by omega⟩
  have heE : ∀ i, i < 11 → ¬ ES (e + i) := fun i hi h => by
    have := h.1
    rcases he with rfl | rfl | rfl <;> omega
  intro n
  induction n with
  | zero =>
    intro i m I' st hi hw hs hl hsm hm
    obtain ⟨m, rfl⟩ : ∃ q, m = q + 1 := ⟨m - 1, by omega⟩
    have hw : st.length = 1 := hw
    obtain ⟨a, r, rfl⟩ := len1 (st := st) (by omega)
    obtain rfl : r = [] := by
      cases r with
      | nil => rfl
      | cons _ _ => simp at hw
    refine ⟨I', ?_, hsm⟩
    show L_X2_value_44 _ _ _ _ _ _ _ _ = _
    unfold L_X2_value_44
    rw [if_pos (nI_le (by omega) (by omega)), W_r ht, bind_some']
    show b2 (F_X7_at (mkX q I') (some (56 + 4 * t)) (nI 0)) _ = _
    rw [W_sat ht (by simp at hl; omega) (by omega), b2_some]
    have e1 : I' (56 + 4 * t) 0 = a := hs.1
    rw [e1]
    rfl
  | succ n ih =>
    intro i m I' st hi hw hs hl hsm hm
    obtain ⟨m, rfl⟩ : ∃ q, m = q + 1 := ⟨m - 1, by omega⟩
    obtain ⟨hv, hn, hw⟩ := hw
    have hci := hc i (by omega)
    have hI' : I' (55 + 4 * t) i = tr (vCode v i) := by rw [hsm (55 + 4 * t) (fun h => by have := h.2; omega)]; exact hci
    show ∃ I'', L_X2_value_44 _ _ _ _ _ _ _ _ = _ ∧ _
    unfold L_X2_value_44
    rw [if_neg (nI_ge (by omega) (by omega)), W_r ht, bind_some']
    show ∃ I'', (aG (mkX q I') (some (55 + 4 * t)) (nI i)).bind _ = some ((rr f (vCode v) n (i + 1) (rst f (vCode v i) st)).headD 0, mkX q I'') ∧ _
    rw [W_code ht (by omega) (by omega), bind_some', hI']
    have push : ∀ (z : Int32) (x7 x6 : Int32), st.length + 1 = hst (vCode v i) st.length → (if x7 = 0 then b2 (F_X7_at (mkX q I') (some (e + 8)) (x6 - (16 : Int32))) (fun v114 S114 => B_X2_value_117 (B_X2_value_44 fu (53 + 4 * t) (some (e + 8)) (nI en) m) fu (53 + 4 * t) S114 (some (e + 8)) (nI en) (nI st.length) (nI i) v114 (nI st.length) (some (56 + 4 * t))) else B_X2_value_117 (B_X2_value_44 fu (53 + 4 * t) (some (e + 8)) (nI en) m) fu (53 + 4 * t) (mkX q I') (some (e + 8)) (nI en) (nI st.length) (nI i) (-x6) (nI st.length) (some (56 + 4 * t))) = B_X2_value_117 (B_X2_value_44 fu (53 + 4 * t) (some (e + 8)) (nI en) m) fu (53 + 4 * t) (mkX q I') (some (e + 8)) (nI en) (nI st.length) (nI i) z (nI st.length) (some (56 + 4 * t)) →
        ∃ I'', B_X2_value_91 (B_X2_value_44 fu (53 + 4 * t) (some (e + 8)) (nI en) m) fu (53 + 4 * t) (mkX q I') (some (e + 8)) (nI en) (nI st.length) (nI i) x6 x7 = some ((rr f (vCode v) n (i + 1) (z :: st)).headD 0, mkX q I'') ∧ smx ES I I'' := by
      intro z x7 x6 hh hz
      unfold B_X2_value_91
      rw [W_r ht, bind_some']
      show ∃ I'', (if x7 = 0 then b2 (F_X7_at (mkX q I') (some (e + 8)) (x6 - (16 : Int32))) (fun v114 S114 => B_X2_value_117 (B_X2_value_44 fu (53 + 4 * t) (some (e + 8)) (nI en) m) fu (53 + 4 * t) S114 (some (e + 8)) (nI en) (nI st.length) (nI i) v114 (nI st.length) (some (56 + 4 * t))) else B_X2_value_117 (B_X2_value_44 fu (53 + 4 * t) (some (e + 8)) (nI en) m) fu (53 + 4 * t) (mkX q I') (some (e + 8)) (nI en) (nI st.length) (nI i) (-x6) (nI st.length) (some (56 + 4 * t))) = _ ∧ _
      rw [hz]
      unfold B_X2_value_117 B_X2_value_209
      rw [W_sst ht (by omega) (by omega), bind_some', lit 1, nI_add, nI_add]
      exact ih (i + 1) m _ (z :: st) (by omega) (by rw [List.length_cons, hh]; exact hw) ⟨up2_s, stR_up hs (Nat.le_refl _)⟩ (by simp; omega) (smx_tr hsm (smx_up hES)) (by omega)
    have bin : ∀ x y : Int32, vCode v i = x → x ≠ 13 → ¬ (100000 : Int32) ≤ x → ¬ x < 11 → x ≠ 19 → (¬ y = 15) → (¬ y = 3) → ((x = 11 ∧ y = 13) ∨ (x = 12 ∧ y = 14) ∨ (x = 14 ∧ y = 60) ∨ (x = 15 ∧ y = 61) ∨ (x = 16 ∧ y = 43) ∨ (x = 17 ∧ y = 45) ∨ (x = 18 ∧ y = 42)) → ∃ I'', B_X2_value_126 (B_X2_value_44 fu (53 + 4 * t) (some (e + 8)) (nI en) m) fu (53 + 4 * t) (mkX q I') (some (e + 8)) (nI en) (nI st.length) (nI i) y = some ((rr f (vCode v) n (i + 1) (rst f x st)).headD 0, mkX q I'') ∧ smx ES I I'' := by
      intro x y hx h13 h1 h11' h19 hy1 hy2 hxy
      have hn2 : 2 ≤ st.length := by
        rw [hx] at hn
        simpa [nst, h1, h11', h13, h19] using hn
      obtain ⟨b, r, rfl⟩ := len1 (st := st) (by omega)
      obtain ⟨a, t', rfl⟩ := len1 (st := r) (by simp at hn2; omega)
      unfold B_X2_value_126
      have e1 : nI (b :: a :: t').length + (-1 : Int32) = nI (t'.length + 1) := pk_m1 (t'.length + 1)
      rw [if_neg hy1, if_neg hy2, e1, W_r ht, bind_some', bind_some', lit 1, pk_sub (by omega), Nat.add_sub_cancel]
      show ∃ I'', b2 (F_X7_at (mkX q I') (some (56 + 4 * t)) (nI t'.length)) _ = _ ∧ _
      rw [W_sat ht (by simp at hl; omega) (by omega), b2_some, W_r ht, bind_some']
      show ∃ I'', b2 (F_X7_at (mkX q I') (some (56 + 4 * t)) (nI (t'.length + 1))) _ = _ ∧ _
      rw [W_sat ht (by simp at hl; omega) (by omega), b2_some, x_work hxy, b2_some]
      show ∃ I'', (F_X7_store (mkX q I') (some (56 + 4 * t)) (nI t'.length) _).bind _ = _ ∧ _
      rw [W_sst ht (by simp at hl; omega) (by omega), bind_some']
      unfold B_X2_value_209
      rw [lit 1, nI_add]
      have ea : I' (56 + 4 * t) t'.length = a := hs.2.1
      have eb : I' (56 + 4 * t) (t'.length + 1) = b := hs.1
      rw [ea, eb]
      have er : rst f x (b :: a :: t') = two x a b :: t' := by simp [rst, h1, h11', h13, h19]
      rw [er]
      have hh : hst x (b :: a :: t').length = t'.length + 1 := by simp [hst, h1, h11', h13, h19]
      rw [hx, hh] at hw
      exact ih (i + 1) m _ (two x a b :: t') (by omega) hw ⟨up2_s, stR_up hs.2.2 (Nat.le_refl _)⟩ (by simp at hl ⊢; omega) (smx_tr hsm (smx_up hES)) (by omega)
    have one : ∀ x y z : Int32, vCode v i = x → (x = 13 ∧ y = 15) ∨ (x = 19 ∧ y = 3) → ∃ I'', B_X2_value_126 (B_X2_value_44 fu (53 + 4 * t) (some (e + 8)) (nI en) m) fu (53 + 4 * t) (mkX q I') (some (e + 8)) (nI en) (nI st.length) (nI i) y = some ((rr f (vCode v) n (i + 1) (rst f x st)).headD 0, mkX q I'') ∧ smx ES I I'' := by
      intro x y z hx hxy
      have hn1 : 1 ≤ st.length := by
        rw [hx] at hn
        rcases hxy with ⟨rfl, -⟩ | ⟨rfl, -⟩ <;> exact hn
      obtain ⟨a, t', rfl⟩ := len1 hn1
      have hl1 : (a :: t').length - 1 = t'.length := by simp
      have fin : ∀ w : Int32, rst f x (a :: t') = w :: t' → (a :: t').length = hst x (a :: t').length → ∃ I'', (F_X7_store (mkX q I') (some (56 + 4 * t)) (nI t'.length) w).bind (fun S164 => B_X2_value_209 (B_X2_value_44 fu (53 + 4 * t) (some (e + 8)) (nI en) m) fu (53 + 4 * t) S164 (some (e + 8)) (nI en) (nI (a :: t').length) (nI i)) = some ((rr f (vCode v) n (i + 1) (rst f x (a :: t'))).headD 0, mkX q I'') ∧ smx ES I I'' := by
        intro w hr hh
        rw [W_sst ht (by simp at hl; omega) (by omega), bind_some', hr]
        unfold B_X2_value_209
        rw [lit 1, nI_add]
        rw [hx, ← hh] at hw
        exact ih (i + 1) m _ (w :: t') (by omega) hw ⟨up2_s, stR_up hs.2 (Nat.le_refl _)⟩ (by simp at hl ⊢; omega) (smx_tr hsm (smx_up hES)) (by omega)
      have ea : I' (56 + 4 * t) t'.length = a := hs.1
      unfold B_X2_value_126 B_X2_value_139
      rcases hxy with ⟨rfl, rfl⟩ | ⟨rfl, rfl⟩
      · rw [if_pos rfl, W_r ht, bind_some', bind_some', lit 1, pk_sub (by simp), hl1]
        show ∃ I'', b2 (F_X7_at (mkX q I') (some (56 + 4 * t)) (nI t'.length)) _ = _ ∧ _
        rw [W_sat ht (by simp at hl; omega) (by omega), b2_some, x_workN, b2_some, ea]
        exact fin _ rfl rfl
      · rw [if_neg (by decide), if_pos rfl, W_r ht, bind_some', bind_some', lit 1, pk_sub (by simp), hl1]
        show ∃ I'', b2 (F_X7_at (mkX q I') (some (56 + 4 * t)) (nI t'.length)) _ = _ ∧ _
        rw [W_sat ht (by simp at hl; omega) (by omega), b2_some, x_workM, b2_some, ea]
        exact fin _ rfl rfl
    have low : ∀ y : Int32, -(tr (vCode v i)) = y → (0 : Int32) < y → (y < 16 ∨ (¬ y < 16 ∧ (21 : Int32) < y)) → ∀ R : Prop, (∀ x, x = B_X2_value_126 (B_X2_value_44 fu (53 + 4 * t) (some (e + 8)) (nI en) m) fu (53 + 4 * t) (mkX q I') (some (e + 8)) (nI en) (nI st.length) (nI i) y → (if (0 : Int32) < -(tr (vCode v i)) then B_X2_value_70 (B_X2_value_44 fu (53 + 4 * t) (some (e + 8)) (nI en) m) fu (53 + 4 * t) (mkX q I') (some (e + 8)) (nI en) (nI st.length) (nI i) (-(tr (vCode v i))) (0 : Int32) else B_X2_value_70 (B_X2_value_44 fu (53 + 4 * t) (some (e + 8)) (nI en) m) fu (53 + 4 * t) (mkX q I') (some (e + 8)) (nI en) (nI st.length) (nI i) (-(tr (vCode v i))) (1 : Int32)) = x → R) → R := by
      intro y hy h0 hc R k
      refine k _ rfl ?_
      rw [hy, if_pos h0]
      unfold B_X2_value_70
      rw [if_pos rfl]
      rcases hc with h | ⟨h, h2⟩
      · rw [if_pos h]
      · rw [if_neg h, if_pos h2]
    rcases hv with ⟨z, hz, hx⟩ | ⟨z, hz, hx⟩ | hx | hx | hx | hx | hx | hx | hx | hx | hx
    · have n1 : (100000 : Int32) ≤ nI (100000 + z) := by rw [lit 100000]; exact nI_le (by omega) (by omega)
      have et : tr (nI (100000 + z)) = nI z := by
        unfold tr
        rw [if_pos n1, lit 100000, pk_sub (by omega), Nat.add_sub_cancel_left]
      rw [hx, et, if_neg (neg_nI (by omega)), rst_num hz, lit 100000, pk_sub (by omega), Nat.add_sub_cancel_left]
      unfold B_X2_value_70
      rw [if_neg (by decide)]
      exact push (nI z) 1 (-nI z) (by rw [hx]; simp [hst, n1]) (by rw [if_neg (by decide), negneg])
    · have n1 : ¬ (100000 : Int32) ≤ nI z := by rw [lit 100000]; exact nI_ge (by omega) (by omega)
      have n3 : nI z < (11 : Int32) := by rw [lit 11]; exact nI_lt (by omega) (by omega)
      have et : -(tr (nI z)) = nI (16 + z) := by
        unfold tr
        rw [if_neg n1, if_pos n3, negneg, lit 16, nI_add]
      rw [hx, et, if_pos (by rw [lit 0]; exact nI_lt (by omega) (by omega)), rst_nam hz]
      unfold B_X2_value_70
      rw [if_pos rfl, if_neg (by rw [lit 16]; exact nI_nlt (by omega) (by omega)), if_neg (by rw [lit 21]; exact nI_nlt (by omega) (by omega))]
      refine push (f z) 0 (nI (16 + z)) (by rw [hx]; simp [hst, n1, n3]) ?_
      rw [if_pos rfl, lit 16, pk_sub (by omega), Nat.add_sub_cancel_left, E_a8 he hz, b2_some, hsm _ (heE 8 (by decide)), hf z hz]
    · exact low 13 (by rw [hx]; rfl) (by decide) (Or.inl (by decide)) _ (fun x hx1 hx2 => by rw [hx2, hx1, hx]; exact bin 11 13 hx (by decide) (by decide) (by decide) (by decide) (by decide) (by decide) (by simp))
    · exact low 14 (by rw [hx]; rfl) (by decide) (Or.inl (by decide)) _ (fun x hx1 hx2 => by rw [hx2, hx1, hx]; exact bin 12 14 hx (by decide) (by decide) (by decide) (by decide) (by decide) (by decide) (by simp))
    · exact low 15 (by rw [hx]; rfl) (by decide) (Or.inl (by decide)) _ (fun x hx1 hx2 => by rw [hx2, hx1, hx]; exact one 13 15 0 hx (by simp))
    · exact low 60 (by rw [hx]; rfl) (by decide) (Or.inr ⟨by decide, by decide⟩) _ (fun x hx1 hx2 => by rw [hx2, hx1, hx]; exact bin 14 60 hx (by decide) (by decide) (by decide) (by decide) (by decide) (by decide) (by simp))
    · exact low 61 (by rw [hx]; rfl) (by decide) (Or.inr ⟨by decide, by decide⟩) _ (fun x hx1 hx2 => by rw [hx2, hx1, hx]; exact bin 15 61 hx (by decide) (by decide) (by decide) (by decide) (by decide) (by decide) (by simp))
    · exact low 43 (by rw [hx]; rfl) (by decide) (Or.inr ⟨by decide, by decide⟩) _ (fun x hx1 hx2 => by rw [hx2, hx1, hx]; exact bin 16 43 hx (by decide) (by decide) (by decide) (by decide) (by decide) (by decide) (by simp))
    · exact low 45 (by rw [hx]; rfl) (by decide) (Or.inr ⟨by decide, by decide⟩) _ (fun x hx1 hx2 => by rw [hx2, hx1, hx]; exact bin 17 45 hx (by decide) (by decide) (by decide) (by decide) (by decide) (by decide) (by simp))
    · exact low 42 (by rw [hx]; rfl) (by decide) (Or.inr ⟨by decide, by decide⟩) _ (fun x hx1 hx2 => by rw [hx2, hx1, hx]; exact bin 18 42 hx (by decide) (by decide) (by decide) (by decide) (by decide) (by decide) (by simp))
    · exact low 3 (by rw [hx]; rfl) (by decide) (Or.inl (by decide)) _ (fun x hx1 hx2 => by rw [hx2, hx1, hx]; exact one 19 3 0 hx (by simp))
