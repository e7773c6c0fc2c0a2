/-! bytes -/
theorem x_isByte {S : Hp} {x : Int32} : F_X7_isByte S x = some (bI (inb x 256), S) := by
  unfold F_X7_isByte
  have e : F_X7_fits S x 256 = some (bI (inb x 256), S) := x_fits (by decide)
  rw [e, b2_some, zb_bI]
theorem m_isByte {S : Hp} {x : Int32} : F_X8_isByte S x = some (bI (inb x 256), S) := by
  unfold F_X8_isByte
  have e : F_X8_in S x 0 255 = some (bI (inb x 256), S) := m_in0 (by decide)
  rw [e, b2_some, zb_bI]
theorem feed_no {fu : Nat} {S : Hp} {x1 x2 x3 x4 x5 x6 : Int32} : B_X7_feed_42 fu 0 S x1 x2 x3 x4 x5 x6 = some (-2, S) := by
  unfold B_X7_feed_42 B_X7_feed_43 B_X7_feed_60
  by_cases h1 : x1 < 1
  · rw [if_pos h1]
  · rw [if_neg h1]
    by_cases h2 : 5 < x1
    · rw [if_pos h2]
    · rw [if_neg h2, if_pos rfl]
def byN (x2 x3 x4 x5 x6 : Int32) (j : Nat) : Int32 := if j = 0 then x2 else if j = 1 then x3 else if j = 2 then x4 else if j = 3 then x5 else x6
theorem X_ob34 {q : Xp} {I : Nat → Nat → Int32} : ob (mkX q I) 4 (some 34) = some 34 := X_ob (by decide) rfl
theorem x_append {q : Xp} {I : Nat → Nat → Int32} {n : Nat} {x : Int32} (h : I 34 1 = nI n) (hn : n < 160) : F_X6_append (mkX q I) 34 x = some (mkX q (up2 (up2 I 35 n x) 34 1 (nI (n + 1)))) := by
  have e1 : aL (mkX q I) (some 35) 7 = some (nI 160) := by
    unfold aL
    rw [X_ob (q := q) (I := I) (a := 35) (t := 7) (by decide) rfl]
    rfl
  have r0 : ∀ K : Nat → Nat → Int32, gR (mkX q K) (some 34) 4 0 = some (some 35) := fun K => (X_gR (by decide) rfl).trans rfl
  have st : F_X7_store (mkX q I) (some 35) (nI n) x = some (mkX q (up2 I 35 n x)) := X_st 160 (by decide) rfl hn (by decide)
  unfold F_X6_append B_X6_append_34
  rw [X_g34, bind_some', h, r0, bind_some', e1, bind_some', if_neg (nI_ge hn (by decide)), bind_some', bind_some', st, bind_some', X_g34, bind_some', up2_o (by decide), h, nI_1, X_pI (t := 4) (a := 34) (by decide) rfl, bind_some']
theorem x_feedL {q : Xp} {I : Nat → Nat → Int32} {n m fu : Nat} {x2 x3 x4 x5 x6 : Int32} (h : I 34 1 = nI n) (hm : m ≤ 5) (hn : n + m ≤ 160) (hfu : 200 < fu) :
    ∃ I', (smx (fun a => a = 34 ∨ a = 35) I I' ∧ I' 34 1 = nI (n + m) ∧ ∀ i, I' 35 i = if n ≤ i ∧ i < n + m then byN x2 x3 x4 x5 x6 (i - n) else I 35 i) ∧ B_X7_feed_84 fu 0 (nI m) x2 x3 x4 x5 x6 fu (mkX q I) (nI 0) = some (nI (n + m), mkX q I') := by
  refine loop0z (mkX q) (B_X7_feed_84 fu 0 (nI m) x2 x3 x4 x5 x6) (fun k => L_X7_feed_84 k fu 0 (nI m) x2 x3 x4 x5 x6) (fun n => rfl) m (fun j I' => smx (fun a => a = 34 ∨ a = 35) I I' ∧ I' 34 1 = nI (n + j) ∧ ∀ i, I' 35 i = if n ≤ i ∧ i < n + j then byN x2 x3 x4 x5 x6 (i - n) else I 35 i) (fun I' => some (nI (n + m), mkX q I')) (by
    intro k I' hi
    unfold L_X7_feed_84
    rw [if_pos (nI_le (Nat.le_refl _) (by omega)), X_r4, bind_some', X_g34, bind_some', hi.2.1]) (by
    intro k I' j hj hi
    obtain ⟨hi, h34, h35⟩ := hi
    refine ⟨up2 (up2 I' 35 (n + j) (byN x2 x3 x4 x5 x6 j)) 34 1 (nI (n + j + 1)), ⟨smx_tr (smx_tr hi (smx_up (Or.inr rfl))) (smx_up (Or.inl rfl)), up2_s, fun i => ?_⟩, ?_⟩
    · rw [up2_o (by decide), up2_row]
      by_cases hij : i = n + j
      · rw [if_pos hij, if_pos ⟨by omega, by omega⟩, show i - n = j by omega]
      · rw [if_neg hij, h35 i]
        by_cases hc : n ≤ i ∧ i < n + j
        · rw [if_pos hc, if_pos ⟨hc.1, by omega⟩]
        · rw [if_neg hc, if_neg (fun q => hc ⟨q.1, by omega⟩)]
    · have ap : ∀ x, F_X6_append (mkX q I') 34 x = some (mkX q (up2 (up2 I' 35 (n + j) x) 34 1 (nI (n + j + 1)))) := fun x => x_append h34 (by omega)
      unfold L_X7_feed_84 B_X7_feed_137
      rw [if_neg (nI_ge hj (by omega)), X_r4, bind_some', nI_1]
      rcases (show j = 0 ∨ j = 1 ∨ j = 2 ∨ j = 3 ∨ j = 4 by omega) with rfl | rfl | rfl | rfl | rfl
      · rw [if_pos (show nI 0 = 0 from rfl), X_ob34, bind_some', ap, bind_some']; rfl
      · rw [if_neg (show ¬ nI 1 = 0 by decide), if_pos (show nI 1 = 1 from rfl), X_ob34, bind_some', ap, bind_some']; rfl
      · rw [if_neg (show ¬ nI 2 = 0 by decide), if_neg (show ¬ nI 2 = 1 by decide), if_pos (show nI 2 = 2 from rfl), X_ob34, bind_some', ap, bind_some']; rfl
      · rw [if_neg (show ¬ nI 3 = 0 by decide), if_neg (show ¬ nI 3 = 1 by decide), if_neg (show ¬ nI 3 = 2 by decide), if_pos (show nI 3 = 3 from rfl), X_ob34, bind_some', ap, bind_some']; rfl
      · rw [if_neg (show ¬ nI 4 = 0 by decide), if_neg (show ¬ nI 4 = 1 by decide), if_neg (show ¬ nI 4 = 2 by decide), if_neg (show ¬ nI 4 = 3 by decide), X_ob34, bind_some', ap, bind_some']; rfl) I ⟨smx_rf, h, fun i => by rw [if_neg (by omega)]⟩ fu (by omega)
theorem m_feedL {J : Nat → Nat → Int32} {n m fu : Nat} {x2 x3 x4 x5 x6 : Int32} (h : J 0 10 = nI n) (hm : m ≤ 5) (hn : n + m ≤ 160) (hfu : 200 < fu) :
    ∃ J', (sme [0, 7] J J' ∧ (∀ j, j ≠ 10 → J' 0 j = J 0 j) ∧ J' 0 10 = nI (n + m) ∧ ∀ i, J' 7 i = if n ≤ i ∧ i < n + m then byN x2 x3 x4 x5 x6 (i - n) else J 7 i) ∧ B_X8_feed_68 fu 0 (nI m) x2 x3 x4 x5 x6 fu (mkM J) (nI 0) = some (nI (n + m), mkM J') := by
  refine loop0z mkM (B_X8_feed_68 fu 0 (nI m) x2 x3 x4 x5 x6) (fun k => L_X8_feed_68 k fu 0 (nI m) x2 x3 x4 x5 x6) (fun n => rfl) m (fun j J' => sme [0, 7] J J' ∧ (∀ j, j ≠ 10 → J' 0 j = J 0 j) ∧ J' 0 10 = nI (n + j) ∧ ∀ i, J' 7 i = if n ≤ i ∧ i < n + j then byN x2 x3 x4 x5 x6 (i - n) else J 7 i) (fun J' => some (nI (n + m), mkM J')) (by
    intro k J' hi
    unfold L_X8_feed_68
    rw [if_pos (nI_le (Nat.le_refl _) (by omega)), M_gI, bind_some', hi.2.2.1]) (by
    intro k J' j hj hi
    obtain ⟨hi, h0, h34, h35⟩ := hi
    refine ⟨up2 (up2 J' 7 (n + j) (byN x2 x3 x4 x5 x6 j)) 0 10 (nI (n + j + 1)), ⟨sme_tr (sme_tr hi (sme_up (by decide))) (sme_up (by decide)), fun j' hj' => by rw [up2_j hj', up2_o (by decide), h0 j' hj'], up2_s, fun i => ?_⟩, ?_⟩
    · rw [up2_o (by decide), up2_row]
      by_cases hij : i = n + j
      · rw [if_pos hij, if_pos ⟨by omega, by omega⟩, show i - n = j by omega]
      · rw [if_neg hij, h35 i]
        by_cases hc : n ≤ i ∧ i < n + j
        · rw [if_pos hc, if_pos ⟨hc.1, by omega⟩]
        · rw [if_neg hc, if_neg (fun q => hc ⟨q.1, by omega⟩)]
    · unfold L_X8_feed_68 B_X8_feed_125
      rw [if_neg (nI_ge hj (by omega)), M_r9, bind_some', M_gI, bind_some', h34, nI_1]
      rcases (show j = 0 ∨ j = 1 ∨ j = 2 ∨ j = 3 ∨ j = 4 by omega) with rfl | rfl | rfl | rfl | rfl
      · rw [if_pos (show nI 0 = 0 from rfl), M_p7 (by omega), bind_some', M_gI, bind_some', up2_o (by decide), h34, nI_1, M_pI, bind_some']; rfl
      · rw [if_neg (show ¬ nI 1 = 0 by decide), if_pos (show nI 1 = 1 from rfl), M_p7 (by omega), bind_some', M_gI, bind_some', up2_o (by decide), h34, nI_1, M_pI, bind_some']; rfl
      · rw [if_neg (show ¬ nI 2 = 0 by decide), if_neg (show ¬ nI 2 = 1 by decide), if_pos (show nI 2 = 2 from rfl), M_p7 (by omega), bind_some', M_gI, bind_some', up2_o (by decide), h34, nI_1, M_pI, bind_some']; rfl
      · rw [if_neg (show ¬ nI 3 = 0 by decide), if_neg (show ¬ nI 3 = 1 by decide), if_neg (show ¬ nI 3 = 2 by decide), if_pos (show nI 3 = 3 from rfl), M_p7 (by omega), bind_some', M_gI, bind_some', up2_o (by decide), h34, nI_1, M_pI, bind_some']; rfl
      · rw [if_neg (show ¬ nI 4 = 0 by decide), if_neg (show ¬ nI 4 = 1 by decide), if_neg (show ¬ nI 4 = 2 by decide), if_neg (show ¬ nI 4 = 3 by decide), M_p7 (by omega), bind_some', M_gI, bind_some', up2_o (by decide), h34, nI_1, M_pI, bind_some']; rfl) J ⟨sme_rf, fun _ _ => rfl, h, fun i => by rw [if_neg (by omega)]⟩ fu (by omega)
