/-! pairs, dropping a wrong -/
def prf (v : Ev) (i j : Nat) (ab : Int32 × Int32) : Int32 × Int32 := if sSaw v (i + 1 + j) i + sSaw v i (i + 1 + j) ≤ ab.2 then ab else (10 * nI i + nI (i + 1 + j), sSaw v (i + 1 + j) i + sSaw v i (i + 1 + j))
def pof (v : Ev) (i : Nat) (ab : Int32 × Int32) : Int32 × Int32 := fold (prf v i) (vP v - (i + 1)) ab
theorem x_pairL {q : Xp} {I : Nat → Nat → Int32} {v : Ev} {fu : Nat} {x1 : Int32} (hE : EX I 1 v) (hfu : 200 < fu) : B_X7_pair_17 fu 0 x1 fu (mkX q I) (-1) (-1) (nI 0) = some (if x1 = 0 then (fold (pof v) (vP v) (-1, -1)).1 else (fold (pof v) (vP v) (-1, -1)).2, mkX q I) := by
  obtain ⟨hP, hP6⟩ := hE.1
  obtain ⟨I', hI, h⟩ := loop2z (mkX q) (B_X7_pair_17 fu 0 x1) (fun k => L_X7_pair_17 k fu 0 x1) (fun n => rfl) (vP v) (pof v) (-1) (-1) (fun _ I' => I' = I) (fun ab I' => some (if x1 = 0 then ab.1 else ab.2, mkX q I')) (by
    intro k I' hi
    subst hi
    unfold L_X7_pair_17 B_X7_pair_111
    rw [X_r0, bind_some', E_gI eE1, bind_some', hP, if_pos (nI_le (Nat.le_refl _) (by omega))]
    split <;> rfl) (by
    intro k I' i hi hI
    subst hI
    refine ⟨I', rfl, ?_⟩
    unfold L_X7_pair_17
    rw [X_r0, bind_some', E_gI eE1, bind_some', hP, if_neg (nI_ge hi (by omega)), nI_1]
    generalize fold (pof v) i (-1, -1) = ab
    obtain ⟨a, b⟩ := ab
    obtain ⟨I2, hI2, h2⟩ := loop2 (mkX q) (B_X7_pair_35 k fu 0 x1 (nI i)) (fun k35 => L_X7_pair_35 k k35 fu 0 x1 (nI i)) (fun n => rfl) (i + 1) (vP v - (i + 1)) (prf v i) a b (fun _ J => J = I') (fun ab J => k (mkX q J) ab.1 ab.2 (nI (i + 1))) (by
      intro k' J hJ
      subst hJ
      unfold L_X7_pair_35
      rw [X_r0, bind_some', E_gI eE1, bind_some', hP, if_pos (nI_le (by omega) (by omega)), nI_1]) (by
      intro k' J j hj hJ
      subst hJ
      refine ⟨J, rfl, ?_⟩
      unfold L_X7_pair_35 B_X7_pair_90 prf
      rw [X_r0, bind_some', E_gI eE1, bind_some', hP, if_neg (nI_ge (by omega) (by omega)), bind_some', E_ob eE1, bind_some', x_sightings eE1 hE hfu, b2_some, X_r0, bind_some', E_ob eE1, bind_some', x_sightings eE1 hE hfu, b2_some, nI_1]
      split <;> rfl) I' rfl fu (by omega)
    rw [hI2] at h2
    exact h2) I rfl fu (by omega)
  rw [hI] at h
  exact h
theorem m_pairL {J : Nat → Nat → Int32} {v : Ev} {fu : Nat} {x1 : Int32} (hM : RM J v) (hfu : 200 < fu) : B_X8_pair_19 fu 0 x1 fu (mkM J) (-1) (-1) (nI 0) = some (if x1 = 0 then (fold (pof v) (vP v) (-1, -1)).1 else (fold (pof v) (vP v) (-1, -1)).2, mkM J) := by
  obtain ⟨hP, hP6⟩ := RM_P hM
  obtain ⟨J', hJ, h⟩ := loop2z mkM (B_X8_pair_19 fu 0 x1) (fun k => L_X8_pair_19 k fu 0 x1) (fun n => rfl) (vP v) (pof v) (-1) (-1) (fun _ J' => J' = J) (fun ab J' => some (if x1 = 0 then ab.1 else ab.2, mkM J')) (by
    intro k J' hi
    subst hi
    unfold L_X8_pair_19 B_X8_pair_115
    rw [M_gI, bind_some', hP, if_pos (nI_le (Nat.le_refl _) (by omega))]
    split <;> rfl) (by
    intro k J' i hi hJ
    subst hJ
    refine ⟨J', rfl, ?_⟩
    unfold L_X8_pair_19
    rw [M_gI, bind_some', hP, if_neg (nI_ge hi (by omega)), nI_1]
    generalize fold (pof v) i (-1, -1) = ab
    obtain ⟨a, b⟩ := ab
    obtain ⟨I2, hI2, h2⟩ := loop2 mkM (B_X8_pair_34 k fu 0 x1 (nI i)) (fun k35 => L_X8_pair_34 k k35 fu 0 x1 (nI i)) (fun n => rfl) (i + 1) (vP v - (i + 1)) (prf v i) a b (fun _ J => J = J') (fun ab J => k (mkM J) ab.1 ab.2 (nI (i + 1))) (by
      intro k' J hJ
      subst hJ
      unfold L_X8_pair_34
      rw [M_gI, bind_some', hP, if_pos (nI_le (by omega) (by omega)), nI_1]) (by
      intro k' J j hj hJ
      subst hJ
      refine ⟨J, rfl, ?_⟩
      generalize fold (prf v i) j (a, b) = cd
      unfold L_X8_pair_34 B_X8_pair_80 B_X8_pair_93 prf
      rw [M_gI, bind_some', hP, if_neg (nI_ge (by omega) (by omega)), M_ob, bind_some', m_sawOf hM hfu, b2_some, M_ob, bind_some', m_sawOf hM hfu, b2_some, nI_1, Int32.add_comm (sSaw v i (i + 1 + j))]
      by_cases hc : sSaw v (i + 1 + j) i + sSaw v i (i + 1 + j) ≤ cd.2
      · simp only [if_pos hc]
      · simp only [if_neg hc]) J' rfl fu (by omega)
    rw [hI2] at h2
    exact h2) J rfl fu (by omega)
  rw [hJ] at h
  exact h
theorem al_pair {fu : Nat} (hfu : 200 < fu) : Al_pair Rel fu := by
  rintro SX SM ⟨q, I, J, v, rfl, rfl, h⟩ a1
  have hM := Rv_M h
  unfold F_X7_pair F_X8_pair
  have e1 : F_X8_in (mkM J) a1 0 1 = some (bI (inb a1 2), mkM J) := m_in0 (by decide)
  rw [x_zo, b2_some, e1, b2_some]
  cases hb : inb a1 2 with
  | false => exact ⟨-2, _, _, by rw [if_pos bIf], by rw [if_pos bIf], q, I, J, v, rfl, rfl, h⟩
  | true => exact ⟨_, _, _, by rw [if_neg bIt]; exact x_pairL h.1 hfu, by rw [if_neg bIt]; exact m_pairL hM hfu, q, I, J, v, rfl, rfl, h⟩
def shf (f : Nat → Int32) (k j i : Nat) : Int32 := if k ≤ i ∧ i < k + j then f (i + 1) else f i
theorem up2_row {R : Nat → Nat → Int32} {a j i : Nat} {x : Int32} : up2 R a j x a i = if i = j then x else R a i := by
  by_cases h : i = j
  · subst h; rw [up2_s, if_pos rfl]
  · rw [up2_j h, if_neg h]
theorem shf_step {f r : Nat → Int32} {k j W : Nat} (h : ∀ i, i < W → r i = shf f k j i) (hj : k + j + 1 < W) : ∀ i, i < W → (if i = k + j then r (k + j + 1) else r i) = shf f k (j + 1) i := by
  intro i hi
  unfold shf
  by_cases hij : i = k + j
  · subst hij
    rw [if_pos rfl, h _ hj, if_pos ⟨by omega, by omega⟩]
    unfold shf
    rw [if_neg (by omega)]
  · rw [if_neg hij, h i hi]
    unfold shf
    by_cases hc : k ≤ i ∧ i < k + j
    · rw [if_pos hc, if_pos ⟨hc.1, by omega⟩]
    · rw [if_neg hc, if_neg (fun q => hc ⟨q.1, by omega⟩)]
def dropOf (v : Ev) (k : Nat) : Ev := (vP v, vW v - 1, vDay v, vKind v, vMore v, vPride v, vName v, shf (vDo v) k (vW v), shf (vWt v) k (vW v), shf (vSw v) k (vW v), vCode v, vBnd v)
theorem shf_end {f : Nat → Int32} {k i W : Nat} (hi : i < W - 1) : shf f k (W - 1 - k) i = shf f k W i := by
  unfold shf
  by_cases h : k ≤ i
  · rw [if_pos ⟨h, by omega⟩, if_pos ⟨h, by omega⟩]
  · rw [if_neg (fun q => h q.1), if_neg (fun q => h q.1)]
theorem okEv_drop {v : Ev} {k : Nat} (h : okEv v) (hk : k < vW v) : okEv (dropOf v k) := by
  refine ⟨h.1, fun i hi => ?_⟩
  have hi : i < vW v - 1 := hi
  show (∃ d, d < 64 ∧ shf _ _ _ _ = nI d) ∧ (∃ d, d < 10 ∧ shf _ _ _ _ = nI d) ∧ ∃ d, d < 64 ∧ shf _ _ _ _ = nI d
  unfold shf
  by_cases hc : k ≤ i ∧ i < k + vW v
  · rw [if_pos hc, if_pos hc, if_pos hc]
    exact h.2 (i + 1) (by omega)
  · rw [if_neg hc, if_neg hc, if_neg hc]
    exact h.2 i (by omega)
def ED (e a : Nat) : Prop := a = e ∨ a = e + 5 ∨ a = e + 6 ∨ a = e + 7
theorem x_drop {q : Xp} {I : Nat → Nat → Int32} {v : Ev} {e fu k : Nat} (he : isE e) (hE : EX I e v) (hk : k < vW v) (hfu : 200 < fu) :
    ∃ I', smx (ED e) I I' ∧ (∀ j, j ≠ 5 → I' e j = I e j) ∧ EX I' e (dropOf v k) ∧ F_X0_drop fu (mkX q I) e (nI k) = some (mkX q I') := by
  obtain ⟨⟨hP, hP6⟩, ⟨hW, hW10⟩, hd, hp, hw⟩ := hE
  have h3 : ∀ {J : Nat → Nat → Int32} {a i : Nat} {x : Int32}, smx (fun a => a = e + 5 ∨ a = e + 6 ∨ a = e + 7) I J → (a = e + 5 ∨ a = e + 6 ∨ a = e + 7) → smx (fun a => a = e + 5 ∨ a = e + 6 ∨ a = e + 7) I (up2 J a i x) := fun h h' => smx_tr h (smx_up h')
  obtain ⟨I', ⟨hs, r5, r6, r7⟩, h⟩ := loop0 (mkX q) (B_X0_drop_2 fu e) (fun k => L_X0_drop_2 k fu e) (fun n => rfl) k (vW v - 1 - k) (fun j I' => smx (fun a => a = e + 5 ∨ a = e + 6 ∨ a = e + 7) I I' ∧ (∀ i, i < vW v → I' (e + 5) i = shf (vDo v) k j i) ∧ (∀ i, i < vW v → I' (e + 6) i = shf (vWt v) k j i) ∧ ∀ i, i < vW v → I' (e + 7) i = shf (vSw v) k j i) (fun I' => some (mkX q (up2 I' e 5 (nI (vW v - 1))))) (by
    intro k' I' hi
    unfold L_X0_drop_2
    rw [E_gI he, bind_some', hi.1 e (by omega), hW, lit 1, pk_sub (by omega), if_pos (nI_le (by omega) (by omega)), bind_some', pk_sub (by omega), E_pI he, bind_some']) (by
    intro k' I' j hj hi
    obtain ⟨hi, r5, r6, r7⟩ := hi
    refine ⟨up2 (up2 (up2 I' (e + 5) (k + j) (I' (e + 5) (k + j + 1))) (e + 6) (k + j) (I' (e + 6) (k + j + 1))) (e + 7) (k + j) (I' (e + 7) (k + j + 1)), ⟨h3 (h3 (h3 hi (Or.inl rfl)) (Or.inr (Or.inl rfl))) (Or.inr (Or.inr rfl)), fun i hi' => ?_, fun i hi' => ?_, fun i hi' => ?_⟩, ?_⟩
    · rw [up2_o (by omega), up2_o (by omega), up2_row]
      exact shf_step r5 (by omega) i hi'
    · rw [up2_o (by omega), up2_row, up2_o (by omega)]
      exact shf_step r6 (by omega) i hi'
    · rw [up2_row, up2_o (by omega), up2_o (by omega)]
      exact shf_step r7 (by omega) i hi'
    · unfold L_X0_drop_2
      rw [E_gI he, bind_some', hi e (by omega), hW, lit 1, pk_sub (by omega), if_neg (nI_ge (by omega) (by omega)), E_r6 he, bind_some', bind_some', nI_add, E_a5 he (by omega), b2_some, E_s5 he (by omega), bind_some', E_r7 he, bind_some', bind_some', E_a6 he (by omega), b2_some, up2_o (by omega), E_s6 he (by omega), bind_some', E_r8 he, bind_some', bind_some', E_a7 he (by omega), b2_some, up2_o (by omega), up2_o (by omega), E_s7 he (by omega), bind_some']) I ⟨smx_rf, fun i hi => by rw [(hw i hi).1]; unfold shf; rw [if_neg (by omega)], fun i hi => by rw [(hw i hi).2.1]; unfold shf; rw [if_neg (by omega)], fun i hi => by rw [(hw i hi).2.2]; unfold shf; rw [if_neg (by omega)]⟩ fu (by omega)
  have f0 : I' e = I e := hs e (by omega)
  have fl : ∀ i, 1 ≤ i → i < 5 → I' (e + i) = I (e + i) := fun i h1 h2 => hs _ (by omega)
  refine ⟨up2 I' e 5 (nI (vW v - 1)), smx_tr (smx_wk hs (fun a ha => Or.inr ha)) (smx_up (Or.inl rfl)), fun j hj => by rw [up2_j hj, f0], ⟨⟨by rw [up2_j (by decide), f0]; exact hP, hP6⟩, ⟨up2_s, by show vW v - 1 ≤ 10; omega⟩, by rw [up2_j (by decide), f0]; exact hd, fun p hp' => ?_, fun i hi => ?_⟩, h⟩
  · rw [up2_o (by omega), up2_o (by omega), up2_o (by omega), up2_o (by omega), fl 1 (by omega) (by omega), fl 2 (by omega) (by omega), fl 3 (by omega) (by omega), fl 4 (by omega) (by omega)]
    exact hp p hp'
  · have hi : i < vW v - 1 := hi
    rw [up2_o (by omega), up2_o (by omega), up2_o (by omega), r5 i (by omega), r6 i (by omega), r7 i (by omega), shf_end hi, shf_end hi, shf_end hi]
    exact ⟨rfl, rfl, rfl⟩
theorem m_drops {J : Nat → Nat → Int32} {v : Ev} {fu k : Nat} (hE : EM J v) (hk : k < vW v) (hfu : 200 < fu) :
    ∃ J', sme [0, 4, 5, 6] J J' ∧ (∀ j, j ≠ 7 → J' 0 j = J 0 j) ∧ EM J' (dropOf v k) ∧ F_X8_drops fu (mkM J) 0 (nI k) = some (mkM J') := by
  obtain ⟨⟨hP, hP6⟩, ⟨hW, hW10⟩, hd, hp, hw⟩ := hE
  obtain ⟨J', ⟨hs, r5, r6, r7⟩, h⟩ := loop0 mkM (B_X8_drops_2 fu 0) (fun k => L_X8_drops_2 k fu 0) (fun n => rfl) k (vW v - 1 - k) (fun j J' => sme [4, 5, 6] J J' ∧ (∀ i, i < vW v → J' 4 i = shf (vDo v) k j i) ∧ (∀ i, i < vW v → J' 5 i = shf (vWt v) k j i) ∧ ∀ i, i < vW v → J' 6 i = shf (vSw v) k j i) (fun J' => some (mkM (up2 J' 0 7 (nI (vW v - 1))))) (by
    intro k' J' hi
    unfold L_X8_drops_2
    rw [M_gI, bind_some', hi.1 0 (by decide), hW, lit 1, nI_add, if_pos (nI_le (by omega) (by omega)), bind_some', pk_sub (by omega), M_pI, bind_some']) (by
    intro k' J' j hj hi
    obtain ⟨hi, r5, r6, r7⟩ := hi
    refine ⟨up2 (up2 (up2 J' 4 (k + j) (J' 4 (k + j + 1))) 5 (k + j) (J' 5 (k + j + 1))) 6 (k + j) (J' 6 (k + j + 1)), ⟨sme_tr (sme_tr (sme_tr hi (sme_up (by decide))) (sme_up (by decide))) (sme_up (by decide)), fun i hi' => ?_, fun i hi' => ?_, fun i hi' => ?_⟩, ?_⟩
    · rw [up2_o (by omega), up2_o (by omega), up2_row]
      exact shf_step r5 (by omega) i hi'
    · rw [up2_o (by omega), up2_row, up2_o (by omega)]
      exact shf_step r6 (by omega) i hi'
    · rw [up2_row, up2_o (by omega), up2_o (by omega)]
      exact shf_step r7 (by omega) i hi'
    · unfold L_X8_drops_2
      rw [M_gI, bind_some', hi 0 (by decide), hW, lit 1, nI_add, if_neg (nI_ge (by omega) (by omega)), M_r4, bind_some', bind_some', M_g4 (by omega), bind_some', M_p4 (by omega), bind_some', M_r5, bind_some', bind_some', M_g5 (by omega), bind_some', up2_o (by omega), M_p5 (by omega), bind_some', M_r6, bind_some', bind_some', M_g6 (by omega), bind_some', up2_o (by omega), up2_o (by omega), M_p6 (by omega), bind_some']) J ⟨sme_rf, fun i hi => by rw [(hw i hi).1]; unfold shf; rw [if_neg (by omega)], fun i hi => by rw [(hw i hi).2.1]; unfold shf; rw [if_neg (by omega)], fun i hi => by rw [(hw i hi).2.2]; unfold shf; rw [if_neg (by omega)]⟩ fu (by omega)
  have f0 : J' 0 = J 0 := hs 0 (by decide)
  refine ⟨up2 J' 0 7 (nI (vW v - 1)), sme_tr (sme_wk hs (by decide)) (sme_up (by decide)), fun j hj => by rw [up2_j hj, f0], ⟨⟨by rw [up2_j (by decide), f0]; exact hP, hP6⟩, ⟨up2_s, by show vW v - 1 ≤ 10; omega⟩, by rw [up2_j (by decide), f0]; exact hd, fun p hp' => ?_, fun i hi => ?_⟩, h⟩
  · rw [up2_o (by omega), up2_o (by omega), up2_o (by omega), up2_o (by omega), hs 1 (by decide), hs 2 (by decide), hs 3 (by decide)]
    exact hp p hp'
  · have hi : i < vW v - 1 := hi
    rw [up2_o (by omega), up2_o (by omega), up2_o (by omega), r5 i (by omega), r6 i (by omega), r7 i (by omega), shf_end hi, shf_end hi, shf_end hi]
    exact ⟨rfl, rfl, rfl⟩
theorem al_amend {fu : Nat} (hfu : 200 < fu) : Al_amend Rel fu := by
  rintro SX SM ⟨q, I, J, v, rfl, rfl, h⟩ a1
  have hM := Rv_M h
  have hW := hM.2.1
  unfold F_X7_amend F_X8_amend
  rw [X_r0, bind_some', E_ob eE1, bind_some', x_hasWrong eE1 h.1, b2_some, M_ob, bind_some', m_isWrong hW.1 hW.2, b2_some]
  cases hb : inb a1 (vW v) with
  | false => exact ⟨-5, _, _, by rw [if_pos bIf], by rw [if_pos bIf], q, I, J, v, rfl, rfl, h⟩
  | true =>
    obtain ⟨k, hk, rfl⟩ := inb_of hb (by omega)
    obtain ⟨x1, x2, x3⟩ := h.1.2.2.2.2 k hk
    obtain ⟨m1, m2, m3⟩ := RM_k hM hk
    obtain ⟨I1, s1, i1, ex1, f1⟩ := x_drop (q := q) (fu := fu) eE1 h.1 hk hfu
    obtain ⟨J1, t1, j1, em1, g1⟩ := m_drops (fu := fu) h.2.1 hk hfu
    refine ⟨vWt v k, _, _, by rw [if_neg bIt, X_r0, bind_some', E_r7 eE1, bind_some', E_a6 eE1 (by omega), b2_some, X_r0, bind_some', E_ob eE1, bind_some', f1, bind_some', x2], by rw [if_neg bIt, M_r5, bind_some', M_g5 (by omega), bind_some', M_ob, bind_some', g1, bind_some', m2], q, I1, J1, dropOf v k, rfl, rfl, ?_⟩
    have sI : ∀ a, a = 0 ∨ 9 ≤ a → I1 a = I a := fun a ha => s1 a (fun q => by unfold ED at q; omega)
    refine Rv_ev h ex1 em1 (okEv_drop h.2.2.1 hk) h.2.2.2.1 ⟨rfl, rfl, rfl⟩ ?_ (fun a ha => sI a (by omega)) (fun a h7 _ => t1 a (by simp; omega)) (j1 10 (by decide)) (j1 13 (by decide)) (j1 15 (by decide)) (fun w hw => IMG_same hw (t1 10 (by decide)) (t1 11 (by decide)) (Nat.le_refl _) (fun _ _ => ⟨rfl, rfl⟩))
    obtain ⟨r', c1, c2, c3, c4⟩ := h.2.2.2.2.1
    exact ⟨r', by rw [i1 10 (by decide)]; exact c1, by rw [j1 14 (by decide)]; exact c2, c3, LT_mono c4 (sI _ (by omega)) (sI _ (by omega)) (t1 9 (by decide)) (t1 8 (by decide))⟩
