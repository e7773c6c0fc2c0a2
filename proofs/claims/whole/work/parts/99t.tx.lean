/-! BOTH TEXTS -/
theorem pC_D {T : Tk} (hV : ∀ t, T.1 t = 2 → T.2 t < 10000) {part t t2 : Nat} {out out2 : List Nat} (h : pC T part t out = .inl (t2, out2)) : ∃ D, out2 = out ++ D ∧ rp D := by
  unfold pC at h
  by_cases k : T.1 t = 10 + part
  · rw [if_pos k] at h
    obtain ⟨D, h1, h2, -⟩ := ou_E hV _ _ _ _ h
    exact ⟨D, h1, h2⟩
  · rw [if_neg k] at h
    cases h
theorem pA_D {T : Tk} (hV : ∀ t, T.1 t = 2 → T.2 t < 10000) {o1 o2 o3 : List Nat} (h : pA T = .inr (o1, (o2, o3))) : ∃ D2 D3, rp o1 ∧ o2 = o1 ++ D2 ∧ rp D2 ∧ o3 = o1 ++ D2 ++ D3 ∧ rp D3 := by
  unfold pA at h
  cases hc1 : pC T 0 0 [] with
  | inr e => rw [hc1] at h; cases h
  | inl q1 =>
    obtain ⟨t1, p1⟩ := q1
    rw [hc1] at h
    dsimp only at h
    cases hc2 : pC T 1 t1 p1 with
    | inr e => rw [hc2] at h; cases h
    | inl q2 =>
      obtain ⟨t2, p2⟩ := q2
      rw [hc2] at h
      dsimp only at h
      cases hc3 : pC T 2 t2 p2 with
      | inr e => rw [hc3] at h; cases h
      | inl q3 =>
        obtain ⟨t3, p3⟩ := q3
        rw [hc3] at h
        dsimp only at h
        by_cases k : T.1 t3 = 0
        · rw [if_pos k] at h
          cases h
          obtain ⟨D1, a1, a2⟩ := pC_D hV hc1
          obtain ⟨D2, b1, b2⟩ := pC_D hV hc2
          obtain ⟨D3, c1, c2⟩ := pC_D hV hc3
          rw [List.nil_append] at a1
          subst a1
          exact ⟨D2, D3, a2, b1, b2, by rw [c1, b1], c2⟩
        · rw [if_neg k] at h
          cases h
def bdN (a b c : Nat) (k : Nat) : Nat := if k = 0 then 0 else if k = 1 then a else if k = 2 then b else c
theorem pA_ok {T : Tk} (hV : ∀ t, T.1 t = 2 → T.2 t < 10000) {o1 o2 o3 : List Nat} (h : pA T = .inr (o1, (o2, o3))) (hl : o3.length ≤ 160) : okCB (fun i => nI (o3.getD i 0)) (bdN o1.length o2.length o3.length) := by
  obtain ⟨D2, D3, h1, h2, h3, h4, h5⟩ := pA_D hV h
  have l2 : o2.length = o1.length + D2.length := by rw [h2, List.length_append]
  have l3 : o3.length = o1.length + D2.length + D3.length := by rw [h4, List.length_append, List.length_append]
  refine ⟨rfl, Nat.zero_le _, show o1.length ≤ o2.length by omega, show o2.length ≤ o3.length by omega, hl, fun part hp => ?_⟩
  rcases (show part = 0 ∨ part = 1 ∨ part = 2 by omega) with rfl | rfl | rfl
  · refine wfs_l o1 0 0 (fun j hj => ?_) (h1 0).1 (h1 0).2
    show nI (o3.getD (0 + j) 0) = _
    rw [Nat.zero_add, h4, List.append_assoc, List.getD_eq_getElem?_getD, List.getElem?_append_left hj, ← List.getD_eq_getElem?_getD]
  · have g := wfs_l (code := fun i => nI (o3.getD i 0)) D2 o1.length 0 (fun j hj => by
      show nI (o3.getD (o1.length + j) 0) = _
      rw [h4, List.append_assoc, List.getD_eq_getElem?_getD, List.getElem?_append_right (by omega), Nat.add_sub_cancel_left, List.getElem?_append_left hj, ← List.getD_eq_getElem?_getD]) (h3 0).1 (h3 0).2
    show wfs _ (o2.length - o1.length) o1.length 0
    rw [show o2.length - o1.length = D2.length by omega]
    exact g
  · have g := wfs_l (code := fun i => nI (o3.getD i 0)) D3 o2.length 0 (fun j hj => by
      show nI (o3.getD (o2.length + j) 0) = _
      rw [h4, ← h2, List.getD_eq_getElem?_getD, List.getElem?_append_right (by omega), Nat.add_sub_cancel_left, ← List.getD_eq_getElem?_getD]) (h5 0).1 (h5 0).2
    show wfs _ (o3.length - o2.length) o2.length 0
    rw [show o3.length - o2.length = D3.length by omega]
    exact g
theorem tx_core {q : Xp} {I J : Nat → Nat → Int32} {b : Nat → Nat} {n fu : Nat} (hB : BY I b n) (hM : BM J b n) (hW : WM J) (h13 : J 0 13 = nI q.1) (hr : q.1 < 6) (hfu : 2000 < fu) :
    (∃ e I' J', pA (tkN b n) = .inl e ∧ smx CW I I' ∧ I' 39 1 = nI (sN b n e) ∧ F_X3_read fu (mkX q I) 39 = some (none, mkX q I') ∧ FTx q.1 J J' ∧ J' 0 10 = 0 ∧ J' 0 13 = nI q.1 ∧ F_X8_text fu (mkM J) 0 = some (-100 - nI (sN b n e), mkM J')) ∨
    ∃ len I' J' c bd, (∀ a, a < 53 + 4 * q.1 → ¬ CW a → I' a = I a) ∧ F_X3_read fu (mkX q I) 39 = some (some (53 + 4 * q.1), mkN q len I') ∧ FTx q.1 J J' ∧ J' 0 10 = 0 ∧ J' 0 13 = nI (q.1 + 1) ∧ LT (nq q len) I' J' q.1 c bd ∧ F_X8_text fu (mkM J) 0 = some (nI q.1, mkM J') := by
  have hn := hB.1
  obtain ⟨N, hN, hNn, -⟩ := ex_N (b := b) (n := n)
  have hT : TOK (tkN b n) N := tkN_T (by omega) hNn
  obtain ⟨x1, x2⟩ := x_rdT (q := q) (fu := fu) hB hfu
  obtain ⟨J', m1, m2, m3, m4⟩ := m_text (fu := fu) hM hW h13 hr hfu
  cases hp : pA (tkN b n) with
  | inl e =>
    obtain ⟨I', a1, a2, a3⟩ := x1 e hp
    obtain ⟨b1, b2⟩ := m3 e hp
    exact Or.inl ⟨e, I', J', rfl, a1, a2, a3, m1, m2, b1, b2⟩
  | inr o =>
    obtain ⟨o1, o2, o3⟩ := o
    obtain ⟨a0, I', a1, ⟨a2, a3, a4⟩, a5, a6⟩ := x2 o1 o2 o3 hp
    obtain ⟨b1, ⟨b2, b3, b4, b5⟩, b6, b7⟩ := m4 o1 o2 o3 hp
    refine Or.inr ⟨o3.length, I', J', fun i => nI (o3.getD i 0), bdN o1.length o2.length o3.length, a1, a6, m1, m2, b1, ⟨Nat.lt_succ_self _, pA_ok hT.2.2.2 hp a0, if_pos rfl, fun i hi => ?_, a5, fun i hi => ?_, b6⟩, b7⟩
    · rcases (show i = 0 ∨ i = 1 ∨ i = 2 by omega) with rfl | rfl | rfl
      · exact a2
      · exact a3
      · exact a4
    · rcases (show i = 0 ∨ i = 1 ∨ i = 2 ∨ i = 3 by omega) with rfl | rfl | rfl | rfl
      · exact b2
      · exact b3
      · exact b4
      · exact b5
theorem LT_tx {q q' : Xp} {I I' J J' : Nat → Nat → Int32} {t : Nat} {c : Nat → Int32} {b : Nat → Nat} (h : LT q I J t c b) (hq : q.1 ≤ q'.1 ∧ ∀ t, t < q.1 → q'.2.1 t = q.2.1 t) (hI : ∀ a, 53 ≤ a → a < 53 + 4 * q.1 → I' a = I a) (hJ : FTx q.1 J J') : LT q' I' J' t c b := by
  obtain ⟨h1, h2, h3, h4, h5, h6, h7⟩ := h
  obtain ⟨-, -, j8, j9⟩ := hJ
  have hb := h2.2.2.2.2.1
  refine ⟨by omega, h2, by rw [hq.2 t h1]; exact h3, fun i hi => by rw [hI _ (by omega) (by omega)]; exact h4 i hi, fun i hi => by rw [hI _ (by omega) (by omega)]; exact h5 i hi, fun i hi => by rw [j9 _ (by omega)]; exact h6 i hi, fun i hi => by rw [j8 _ (by omega)]; exact h7 i hi⟩
theorem Rv_tx {q q' : Xp} {I I' J J' : Nat → Nat → Int32} {v : Ev} (h : Rv q I J v) (hq : q'.2.2 = q.2.2 ∧ q.1 ≤ q'.1 ∧ q'.1 ≤ 6 ∧ ∀ t, t < q.1 → q'.2.1 t = q.2.1 t) (hI : ∀ a, a < 53 + 4 * q.1 → ¬ CW a → a ≠ 0 → a ≠ 34 → I' a = I a) (h03 : I' 0 3 = I 0 3) (h07 : I' 0 7 = nI q'.1) (h34 : I' 34 1 = 0) (hJ : FTx q.1 J J') (h10 : J' 0 10 = 0) (h13 : J' 0 13 = nI q'.1) (hnew : ∀ t, q.1 ≤ t → t < q'.1 → ∃ c b, LT q' I' J' t c b) : Rv q' I' J' v := by
  have f : ∀ a, 1 ≤ a → a ≤ 33 → I' a = I a := fun a h1 h2 => hI a (by omega) (fun q => by unfold CW at q; omega) (by omega) (by omega)
  have f4 : ∀ a, 42 ≤ a → a < 53 + 4 * q.1 → I' a = I a := fun a h1 h2 => hI a h2 (fun q => by unfold CW at q; omega) (by omega) (by omega)
  obtain ⟨g1, g2, g8, g9⟩ := id hJ
  have lt : ∀ {t c b}, LT q I J t c b → LT q' I' J' t c b := fun hh => LT_tx hh ⟨hq.2.1, hq.2.2.2⟩ (fun a h1 h2 => f4 a (by omega) h2) hJ
  obtain ⟨a1, a2, a3, a4, ⟨r, c1, c2, c3, c4⟩, ⟨t1, t2, t3, t4, t5⟩, -, a8, ⟨i1, i2⟩, a10⟩ := h
  refine ⟨EX_mono a1 (fun i hi => f _ (by omega) (by omega)), ?_, a3, a4, ⟨r, ?_, ?_, by rw [hq.1]; exact c3, lt c4⟩, ⟨by omega, hq.2.2.1, h07, h13, fun t ht => ?_⟩, ⟨0, by decide, h34, h10, fun i hi => by omega⟩, ?_, ⟨?_, ?_⟩, ?_⟩
  · unfold EM
    rw [g2 0 (by decide) (by decide) (by decide), g2 7 (by decide) (by decide) (by decide), g2 8 (by decide) (by decide) (by decide), g1 1 (by decide) (by decide) (by decide) (by decide), g1 2 (by decide) (by decide) (by decide) (by decide), g1 3 (by decide) (by decide) (by decide) (by decide), g1 4 (by decide) (by decide) (by decide) (by decide), g1 5 (by decide) (by decide) (by decide) (by decide), g1 6 (by decide) (by decide) (by decide) (by decide)]
    exact a2
  · rw [f 1 (by omega) (by omega)]; exact c1
  · rw [g2 14 (by decide) (by decide) (by decide)]; exact c2
  · by_cases h : t < q.1
    · obtain ⟨c, b, hh⟩ := t5 t h
      exact ⟨c, b, lt hh⟩
    · exact hnew t (by omega) ht
  · intro s hs
    rw [f4 (45 + 2 * s) (by omega) (by omega), f4 (46 + 2 * s) (by omega) (by omega), g1 12 (by decide) (by decide) (by decide) (by decide), g1 13 (by decide) (by decide) (by decide) (by decide), g1 14 (by decide) (by decide) (by decide) (by decide)]
    exact a8 s hs
  · rw [h03, g2 15 (by decide) (by decide) (by decide)]; exact i1
  · rw [g2 15 (by decide) (by decide) (by decide)]
    rcases i2 with h0 | ⟨h1, w, w1, w2, w3, w4, r', d1, d2, d3, d4⟩
    · exact Or.inl h0
    · refine Or.inr ⟨h1, w, EX_mono w1 (fun i hi => f _ (by omega) (by omega)), w2, w3, ?_, r', ?_, ?_, by rw [hq.1]; exact d3, lt d4⟩
      · unfold IMG
        rw [g1 11 (by decide) (by decide) (by decide) (by decide), g1 10 (by decide) (by decide) (by decide) (by decide)]
        exact w4
      · rw [f 23 (by omega) (by omega)]; exact d1
      · rw [g1 11 (by decide) (by decide) (by decide) (by decide)]; exact d2
  · intro i hi
    rw [g1 16 (by decide) (by decide) (by decide) (by decide)]
    exact a10 i hi
