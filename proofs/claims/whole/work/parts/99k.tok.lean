/-! TOKENS, pure: b the bytes, n how many -/
def blB (x : Nat) : Bool := decide (x = 32 ∨ x = 10)
def ltB (x : Nat) : Bool := decide (97 ≤ x ∧ x ≤ 122)
def dgB (x : Nat) : Bool := decide (48 ≤ x ∧ x ≤ 57)
def sgB (x : Nat) : Bool := decide (x = 40 ∨ x = 41 ∨ x = 42 ∨ x = 43 ∨ x = 45 ∨ x = 59 ∨ x = 60 ∨ x = 61)
def pas (p : Nat → Bool) (b : Nat → Nat) (n : Nat) : Nat → Nat → Nat
  | 0, j => j
  | f + 1, j => if j < n ∧ p (b j) = true then pas p b n f (j + 1) else j
theorem pas_sp {p : Nat → Bool} {b : Nat → Nat} {n : Nat} : ∀ f j, j ≤ n → n ≤ f + j → j ≤ pas p b n f j ∧ pas p b n f j ≤ n ∧ (∀ i, j ≤ i → i < pas p b n f j → p (b i) = true) ∧ (pas p b n f j < n → p (b (pas p b n f j)) = false)
  | 0, j, h1, h2 => ⟨Nat.le_refl _, h1, fun i a c => (by have c : i < j := c; omega), fun h => (by have h : j < n := h; omega)⟩
  | f + 1, j, h1, h2 => by
    unfold pas
    by_cases h : j < n ∧ p (b j) = true
    · rw [if_pos h]
      obtain ⟨a1, a2, a3, a4⟩ := pas_sp (p := p) (b := b) (n := n) f (j + 1) (by omega) (by omega)
      refine ⟨by omega, a2, fun i hi hi2 => ?_, a4⟩
      by_cases e : i = j
      · rw [e]; exact h.2
      · exact a3 i (by omega) hi2
    · rw [if_neg h]
      refine ⟨Nat.le_refl _, h1, fun i hi hi2 => (by omega), fun hj => ?_⟩
      cases hp : p (b j) with
      | false => rfl
      | true => exact absurd ⟨hj, hp⟩ h
def skN (b : Nat → Nat) (n j : Nat) : Nat := pas blB b n n j
def enN (b : Nat → Nat) (n s : Nat) : Nat := if s = n then n else if ltB (b s) = true then pas ltB b n n (s + 1) else if dgB (b s) = true then pas dgB b n n (s + 1) else s + 1
def pN (b : Nat → Nat) (n : Nat) : Nat → Nat
  | 0 => 0
  | t + 1 => enN b n (skN b n (pN b n t))
def sN (b : Nat → Nat) (n t : Nat) : Nat := skN b n (pN b n t)
def gO (b : Nat → Nat) (i : Nat) : Bool := (ltB (b (i - 1)) && ltB (b i)) || (dgB (b (i - 1)) && dgB (b i))
theorem lt_dg {x : Nat} (h : ltB x = true) : dgB x = false := by
  have h := of_decide_eq_true h
  exact decide_eq_false (by omega)
theorem lt_bl {x : Nat} (h : ltB x = true) : blB x = false := by
  have h := of_decide_eq_true h
  exact decide_eq_false (by omega)
theorem dg_bl {x : Nat} (h : dgB x = true) : blB x = false := by
  have h := of_decide_eq_true h
  exact decide_eq_false (by omega)
theorem bl_lt {x : Nat} (h : blB x = true) : ltB x = false := by
  have h := of_decide_eq_true h
  exact decide_eq_false (by omega)
theorem bl_dg {x : Nat} (h : blB x = true) : dgB x = false := by
  have h := of_decide_eq_true h
  exact decide_eq_false (by omega)
theorem en_sp {b : Nat → Nat} {n s : Nat} (hs : s < n) : s < enN b n s ∧ enN b n s ≤ n ∧ (∀ i, s < i → i < enN b n s → gO b i = true ∧ blB (b i) = false) ∧ gO b (enN b n s) = false ∨ s < enN b n s ∧ enN b n s = n ∧ (∀ i, s < i → i < enN b n s → gO b i = true ∧ blB (b i) = false) := by
  unfold enN
  rw [if_neg (by omega)]
  by_cases h1 : ltB (b s) = true
  · rw [if_pos h1]
    obtain ⟨a1, a2, a3, a4⟩ := pas_sp (p := ltB) (b := b) (n := n) n (s + 1) (by omega) (by omega)
    have al : ∀ i, s ≤ i → i < pas ltB b n n (s + 1) → ltB (b i) = true := fun i h2 h3 => by
      by_cases e : i = s
      · rw [e]; exact h1
      · exact a3 i (by omega) h3
    have go : ∀ i, s < i → i < pas ltB b n n (s + 1) → gO b i = true ∧ blB (b i) = false := fun i h2 h3 => by
      refine ⟨?_, lt_bl (al i (by omega) h3)⟩
      unfold gO
      rw [al (i - 1) (by omega) (by omega), al i (by omega) h3]
      rfl
    by_cases hn : pas ltB b n n (s + 1) < n
    · refine Or.inl ⟨by omega, a2, go, ?_⟩
      unfold gO
      rw [a4 hn, lt_dg (al (pas ltB b n n (s + 1) - 1) (by omega) (by omega)), Bool.and_false, Bool.false_and]
      rfl
    · exact Or.inr ⟨by omega, by omega, go⟩
  · rw [if_neg h1]
    by_cases h2 : dgB (b s) = true
    · rw [if_pos h2]
      obtain ⟨a1, a2, a3, a4⟩ := pas_sp (p := dgB) (b := b) (n := n) n (s + 1) (by omega) (by omega)
      have al : ∀ i, s ≤ i → i < pas dgB b n n (s + 1) → dgB (b i) = true := fun i h2' h3 => by
        by_cases e : i = s
        · rw [e]; exact h2
        · exact a3 i (by omega) h3
      have go : ∀ i, s < i → i < pas dgB b n n (s + 1) → gO b i = true ∧ blB (b i) = false := fun i h2 h3 => by
        refine ⟨?_, dg_bl (al i (by omega) h3)⟩
        unfold gO
        rw [al (i - 1) (by omega) (by omega), al i (by omega) h3, Bool.and_true, Bool.or_true]
      by_cases hn : pas dgB b n n (s + 1) < n
      · refine Or.inl ⟨by omega, a2, go, ?_⟩
        have hl : ltB (b (pas dgB b n n (s + 1) - 1)) = false := by
          cases hq : ltB (b (pas dgB b n n (s + 1) - 1)) with
          | false => rfl
          | true =>
            have := lt_dg hq
            rw [al (pas dgB b n n (s + 1) - 1) (by omega) (by omega)] at this
            cases this
        unfold gO
        rw [a4 hn, hl, Bool.and_false, Bool.false_and]
        rfl
      · exact Or.inr ⟨by omega, by omega, go⟩
    · rw [if_neg h2]
      refine Or.inl ⟨by omega, by omega, fun i h3 h4 => (by omega), ?_⟩
      unfold gO
      rw [Nat.add_sub_cancel, Bool.eq_false_iff.mpr h1, Bool.eq_false_iff.mpr h2, Bool.false_and, Bool.false_and]
      rfl
theorem en_le {b : Nat → Nat} {n s : Nat} (hs : s ≤ n) : enN b n s ≤ n := by
  by_cases h : s = n
  · unfold enN
    rw [if_pos h]
    exact Nat.le_refl _
  · rcases en_sp (b := b) (show s < n by omega) with h | h
    · exact h.2.1
    · omega
theorem pN_le {b : Nat → Nat} {n : Nat} : ∀ t, pN b n t ≤ n
  | 0 => Nat.zero_le _
  | t + 1 => en_le (pas_sp n _ (pN_le t) (by omega)).2.1
theorem sN_sp {b : Nat → Nat} {n t : Nat} : pN b n t ≤ sN b n t ∧ sN b n t ≤ n ∧ (∀ i, pN b n t ≤ i → i < sN b n t → blB (b i) = true) ∧ (sN b n t < n → blB (b (sN b n t)) = false) := pas_sp n _ (pN_le t) (by omega)
theorem pN_s {b : Nat → Nat} {n t : Nat} : pN b n (t + 1) = enN b n (sN b n t) := rfl
theorem pN_lt {b : Nat → Nat} {n t : Nat} (h : sN b n t < n) : sN b n t < pN b n (t + 1) := by
  rw [pN_s]
  rcases en_sp (b := b) h with h | h
  · exact h.1
  · exact h.1
theorem pN_ge {b : Nat → Nat} {n : Nat} : ∀ t, (∀ u, u < t → sN b n u < n) → t ≤ pN b n t
  | 0, _ => Nat.zero_le _
  | t + 1, h => by
    have h1 := pN_ge (b := b) (n := n) t (fun u hu => h u (by omega))
    have h2 := pN_lt (h t (by omega))
    have h3 := (sN_sp (b := b) (n := n) (t := t)).1
    omega
theorem ex_N {b : Nat → Nat} {n : Nat} : ∃ N, N ≤ n ∧ sN b n N = n ∧ ∀ t, t < N → sN b n t < n := by
  have key : ∀ k, (∃ N, N ≤ k ∧ sN b n N = n ∧ ∀ t, t < N → sN b n t < n) ∨ ∀ t, t ≤ k → sN b n t < n := by
    intro k
    induction k with
    | zero =>
      by_cases h : sN b n 0 = n
      · exact Or.inl ⟨0, Nat.le_refl _, h, fun t ht => by omega⟩
      · refine Or.inr (fun t ht => ?_)
        have := (sN_sp (b := b) (n := n) (t := 0)).2.1
        rw [show t = 0 by omega]
        omega
    | succ k ih =>
      rcases ih with ⟨N, h1, h2, h3⟩ | ih
      · exact Or.inl ⟨N, by omega, h2, h3⟩
      · by_cases h : sN b n (k + 1) = n
        · exact Or.inl ⟨k + 1, Nat.le_refl _, h, fun t ht => ih t (by omega)⟩
        · refine Or.inr (fun t ht => ?_)
          by_cases e : t = k + 1
          · have := (sN_sp (b := b) (n := n) (t := k + 1)).2.1
            rw [e]
            omega
          · exact ih t (by omega)
  rcases key n with h | h
  · exact h
  · have h1 := pN_ge (b := b) (n := n) n (fun u hu => h u (by omega))
    have h2 := (sN_sp (b := b) (n := n) (t := n)).1
    have h3 := h n (Nat.le_refl _)
    omega
/-- where a token starts nothing goes on -/
theorem sN_go {b : Nat → Nat} {n t : Nat} (ht : ∀ u, u < t → sN b n u < n) (h : sN b n t < n) (h0 : 0 < sN b n t) : gO b (sN b n t) = false := by
  obtain ⟨h1, h2, h3, h4⟩ := sN_sp (b := b) (n := n) (t := t)
  by_cases e : pN b n t = sN b n t
  · cases t with
    | zero =>
      have : pN b n 0 = 0 := rfl
      omega
    | succ t =>
      rw [← e, pN_s]
      rcases en_sp (b := b) (ht t (by omega)) with g | g
      · exact g.2.2.2
      · rw [← pN_s] at g
        omega
  · have g := h3 (sN b n t - 1) (by omega) (by omega)
    unfold gO
    rw [bl_lt g, bl_dg g, Bool.false_and, Bool.false_and]
    rfl
/-! kinds -/
def mt (b : Nat → Nat) (s e q : Nat) : Bool := decide (e - s = zlen.getD q 0 ∧ ∀ j, j < zlen.getD q 0 → nI (b (s + j)) = (zbyt.getD q []).getD j 0)
def cwf (m : Nat → Bool) : Nat → Nat → Nat
  | 0, _ => 1
  | f + 1, w => if m w = true then w else cwf m f (w + 1)
def rwf (m : Nat → Bool) : Nat → Nat → Nat
  | 0, x => x
  | f + 1, x => if m x = true then x else rwf m f (x + 1)
def kN (b : Nat → Nat) (s e : Nat) : Nat := if dgB (b s) = true then (if e - s ≤ 4 then 2 else 1) else if ltB (b s) = true then cwf (fun w => mt b s e (w - 9)) 12 10 else if sgB (b s) = true then b s else 1
def nv (b : Nat → Nat) (s : Nat) : Nat → Nat
  | 0 => 0
  | k + 1 => 10 * nv b s k + (b (s + k) - 48)
def tkN (b : Nat → Nat) (n : Nat) : Tk := (fun t => if sN b n t = n then 0 else kN b (sN b n t) (pN b n (t + 1)), fun t => nv b (sN b n t) (pN b n (t + 1) - sN b n t))
theorem cwf_in {m : Nat → Bool} : ∀ f w, cwf m f w = 1 ∧ (∀ v, w ≤ v → v < w + f → m v = false) ∨ w ≤ cwf m f w ∧ cwf m f w < w + f ∧ m (cwf m f w) = true
  | 0, w => Or.inl ⟨rfl, fun v h1 h2 => by omega⟩
  | f + 1, w => by
    unfold cwf
    by_cases h : m w = true
    · rw [if_pos h]
      exact Or.inr ⟨Nat.le_refl _, by omega, h⟩
    · rw [if_neg h]
      rcases cwf_in (m := m) f (w + 1) with g | g
      · refine Or.inl ⟨g.1, fun v h1 h2 => ?_⟩
        by_cases e : v = w
        · rw [e]; exact Bool.eq_false_iff.mpr h
        · exact g.2 v (by omega) (by omega)
      · exact Or.inr ⟨by omega, by omega, g.2.2⟩
theorem rwf_in {m : Nat → Bool} : ∀ f x, rwf m f x = x + f ∧ (∀ v, x ≤ v → v < x + f → m v = false) ∨ x ≤ rwf m f x ∧ rwf m f x < x + f ∧ m (rwf m f x) = true
  | 0, x => Or.inl ⟨rfl, fun v h1 h2 => by omega⟩
  | f + 1, x => by
    unfold rwf
    by_cases h : m x = true
    · rw [if_pos h]
      exact Or.inr ⟨Nat.le_refl _, by omega, h⟩
    · rw [if_neg h]
      rcases rwf_in (m := m) f (x + 1) with g | g
      · refine Or.inl ⟨by omega, fun v h1 h2 => ?_⟩
        by_cases e : v = x
        · rw [e]; exact Bool.eq_false_iff.mpr h
        · exact g.2 v (by omega) (by omega)
      · exact Or.inr ⟨by omega, by omega, g.2.2⟩
/-- a word of the reference, in the class's order -/
def prW (x : Nat) : Nat := if x < 3 then x + 10 else if x < 9 then x + 13 else x + 4
def mtq (q q' : Nat) : Bool := decide (zlen.getD q 0 = zlen.getD q' 0 ∧ ∀ j, j < zlen.getD q 0 → (zbyt.getD q []).getD j 0 = (zbyt.getD q' []).getD j 0)
theorem mt_1 : ∀ q, q < 13 → ∀ q', q' < 13 → 1 ≤ q ∧ 1 ≤ q' ∧ mtq q q' = true → q = q' := by decide +kernel
theorem mt_eq {b : Nat → Nat} {s e q q' : Nat} (h1 : 1 ≤ q) (h2 : q < 13) (h3 : 1 ≤ q') (h4 : q' < 13) (h : mt b s e q = true) (h' : mt b s e q' = true) : q = q' := by
  have h := of_decide_eq_true h
  have h' := of_decide_eq_true h'
  exact mt_1 q h2 q' h4 ⟨h1, h3, decide_eq_true ⟨by omega, fun j g1 => (h.2 j g1).symm.trans (h'.2 j (by omega))⟩⟩
/-- the two searches agree -/
theorem two_w {b : Nat → Nat} {s e : Nat} : cwf (fun w => mt b s e (w - 9)) 12 10 = (if rwf (fun x => mt b s e (prW x - 9)) 12 0 = 12 then 1 else prW (rwf (fun x => mt b s e (prW x - 9)) 12 0)) := by
  have pr : ∀ x, x < 12 → 10 ≤ prW x ∧ prW x ≤ 21 := by decide
  have on : ∀ w, w < 22 → 10 ≤ w → ∃ x, x < 12 ∧ prW x = w := by decide
  rcases rwf_in (m := fun x => mt b s e (prW x - 9)) 12 0 with g | g
  · rw [if_pos (by omega)]
    rcases cwf_in (m := fun w => mt b s e (w - 9)) 12 10 with k | k
    · exact k.1
    · obtain ⟨x, hx, hp⟩ := on (cwf (fun w => mt b s e (w - 9)) 12 10) (by omega) (by omega)
      have := g.2 x (by omega) (by omega)
      simp only [hp, k.2.2] at this
      cases this
  · rw [if_neg (by omega)]
    have p1 := pr (rwf (fun x => mt b s e (prW x - 9)) 12 0) (by omega)
    rcases cwf_in (m := fun w => mt b s e (w - 9)) 12 10 with k | k
    · have := k.2 (prW (rwf (fun x => mt b s e (prW x - 9)) 12 0)) (by omega) (by omega)
      have g3 := g.2.2
      simp only [this] at g3
      cases g3
    · have := mt_eq (by omega) (by omega) (by omega) (by omega) k.2.2 g.2.2
      omega
theorem kd_sg : ∀ k, k < 62 → sgB k = true → kd k = true := by decide
theorem kd_w : ∀ k, k < 62 → 10 ≤ k ∧ k ≤ 21 → kd k = true := by decide
theorem kN_ok {b : Nat → Nat} {s e : Nat} : kN b s e < 62 ∧ kd (kN b s e) = true := by
  unfold kN
  by_cases h1 : dgB (b s) = true
  · rw [if_pos h1]
    by_cases h2 : e - s ≤ 4
    · rw [if_pos h2]; exact ⟨by decide, by decide⟩
    · rw [if_neg h2]; exact ⟨by decide, by decide⟩
  · rw [if_neg h1]
    by_cases h2 : ltB (b s) = true
    · rw [if_pos h2]
      rcases cwf_in (m := fun w => mt b s e (w - 9)) 12 10 with k | k
      · rw [k.1]; exact ⟨by decide, by decide⟩
      · exact ⟨by omega, kd_w _ (by omega) (by omega)⟩
    · rw [if_neg h2]
      by_cases h3 : sgB (b s) = true
      · rw [if_pos h3]
        have h4 := of_decide_eq_true h3
        exact ⟨by omega, kd_sg _ (by omega) h3⟩
      · rw [if_neg h3]; exact ⟨by decide, by decide⟩
theorem tkN_ok {b : Nat → Nat} {n t : Nat} : (tkN b n).1 t < 62 ∧ kd ((tkN b n).1 t) = true := by
  show (if sN b n t = n then 0 else kN b (sN b n t) (pN b n (t + 1))) < 62 ∧ kd (if sN b n t = n then 0 else kN b (sN b n t) (pN b n (t + 1))) = true
  by_cases h : sN b n t = n
  · rw [if_pos h]; exact ⟨by decide, by decide⟩
  · rw [if_neg h]; exact kN_ok
theorem nv_lt {b : Nat → Nat} {s : Nat} : ∀ k, (∀ i, s ≤ i → i < s + k → dgB (b i) = true) → nv b s k < 10 ^ k
  | 0, _ => Nat.one_pos
  | k + 1, h => by
    have h1 := nv_lt (b := b) (s := s) k (fun i h1 h2 => h i h1 (by omega))
    have h2 := of_decide_eq_true (h (s + k) (by omega) (by omega))
    show 10 * nv b s k + (b (s + k) - 48) < 10 ^ k * 10
    omega
/-- a number's digits -/
theorem num_dg {b : Nat → Nat} {n t : Nat} (h : sN b n t < n) (hd : dgB (b (sN b n t)) = true) : ∀ i, sN b n t ≤ i → i < pN b n (t + 1) → dgB (b i) = true := by
  intro i h1 h2
  rw [pN_s] at h2
  unfold enN at h2
  have hl : ¬ ltB (b (sN b n t)) = true := fun q => by rw [lt_dg q] at hd; cases hd
  rw [if_neg (by omega), if_neg hl, if_pos hd] at h2
  by_cases e : i = sN b n t
  · rw [e]; exact hd
  · exact (pas_sp (p := dgB) (b := b) (n := n) n (sN b n t + 1) (by omega) (by omega)).2.2.1 i (by omega) h2
theorem wrd_lt {b : Nat → Nat} {n t : Nat} (h : sN b n t < n) (hd : ltB (b (sN b n t)) = true) : ∀ i, sN b n t ≤ i → i < pN b n (t + 1) → ltB (b i) = true := by
  intro i h1 h2
  rw [pN_s] at h2
  unfold enN at h2
  rw [if_neg (by omega), if_pos hd] at h2
  by_cases e : i = sN b n t
  · rw [e]; exact hd
  · exact (pas_sp (p := ltB) (b := b) (n := n) n (sN b n t + 1) (by omega) (by omega)).2.2.1 i (by omega) h2
theorem kN_2 {b : Nat → Nat} {s e : Nat} (h : kN b s e = 2) : dgB (b s) = true ∧ e - s ≤ 4 := by
  unfold kN at h
  by_cases h1 : dgB (b s) = true
  · rw [if_pos h1] at h
    by_cases h2 : e - s ≤ 4
    · exact ⟨h1, h2⟩
    · rw [if_neg h2] at h
      cases h
  · rw [if_neg h1] at h
    by_cases h2 : ltB (b s) = true
    · rw [if_pos h2] at h
      rcases cwf_in (m := fun w => mt b s e (w - 9)) 12 10 with k | k
      · omega
      · omega
    · rw [if_neg h2] at h
      by_cases h3 : sgB (b s) = true
      · rw [if_pos h3] at h
        have h4 := of_decide_eq_true h3
        omega
      · rw [if_neg h3] at h
        cases h
theorem tk_2 {b : Nat → Nat} {n t : Nat} (h : (tkN b n).1 t = 2) : sN b n t < n ∧ dgB (b (sN b n t)) = true ∧ pN b n (t + 1) - sN b n t ≤ 4 := by
  have h : (if sN b n t = n then 0 else kN b (sN b n t) (pN b n (t + 1))) = 2 := h
  by_cases e : sN b n t = n
  · rw [if_pos e] at h
    cases h
  · rw [if_neg e] at h
    have := (sN_sp (b := b) (n := n) (t := t)).2.1
    exact ⟨by omega, kN_2 h⟩
theorem tkN_T {b : Nat → Nat} {n N : Nat} (hN : N ≤ 160) (h : sN b n N = n) : TOK (tkN b n) N := by
  refine ⟨if_pos h, hN, fun t => by have := (tkN_ok (b := b) (n := n) (t := t)).1; omega, fun t ht => ?_⟩
  obtain ⟨h1, h2, h3⟩ := tk_2 ht
  have g := nv_lt (b := b) (s := sN b n t) (pN b n (t + 1) - sN b n t) (fun i h4 h5 => num_dg h1 h2 i h4 (by omega))
  have : 10 ^ (pN b n (t + 1) - sN b n t) ≤ 10 ^ 4 := Nat.pow_le_pow_right (by decide) h3
  show nv b (sN b n t) (pN b n (t + 1) - sN b n t) < 10000
  omega
