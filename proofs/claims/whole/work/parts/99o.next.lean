/-! THE REFERENCE'S NEXT -/
theorem kN_w {b : Nat → Nat} {n t : Nat} (h : sN b n t < n) : (tkN b n).1 t = kN b (sN b n t) (pN b n (t + 1)) := if_neg (by omega)
theorem rt_3 : ∀ r, r < 12 → rtk (prW r) = (if r < 3 then 3 else if r < 9 then 2 else nI (r - 5)) := by decide +kernel
theorem vl_3 : ∀ r, r < 12 → 9 ≤ r → vlK (prW r) = false := by decide +kernel
theorem rt_s : ∀ k, k < 62 → sgB k = true → rtk k = nI k ∧ vlK k = false := by decide +kernel
theorem m_next {J : Nat → Nat → Int32} {b : Nat → Nat} {n t fu : Nat} (hB : BM J b n) (hW : WM J) (h22 : J 0 22 = nI (pN b n t)) (hfu : 400 < fu) : ∃ J', FN [22, 23, 24, 25] J J' ∧ J' 0 22 = nI (pN b n (t + 1)) ∧ J' 0 23 = nI (sN b n t) ∧ J' 0 24 = rtk ((tkN b n).1 t) ∧ (vlK ((tkN b n).1 t) = true → J' 0 25 = rvl (tkN b n) t) ∧ F_X8_next fu (mkM J) 0 = some (mkM J') := by
  have hn := hB.1
  obtain ⟨p1, p2, p3, p4⟩ := sN_sp (b := b) (n := n) (t := t)
  have pl := pN_le (b := b) (n := n) (t + 1)
  obtain ⟨J1, g1, g2, g3⟩ := m_skip (fu := fu) p2 p4 (sN b n t - pN b n t) (pN b n t) fu J (by omega) (by omega) hB h22 p3
  have s1 : FN [22, 23, 24, 25] J (up2 (up2 (up2 J1 0 23 (nI (sN b n t))) 0 24 0) 0 25 0) := FN_tr (FN_wk g1 (by decide)) (FN_tr (FN_0 (by decide)) (FN_tr (FN_0 (by decide)) (FN_0 (by decide))))
  have B1 := BM_s hB s1 (by decide)
  have W1 := WM_s hW s1
  have e22 : up2 (up2 (up2 J1 0 23 (nI (sN b n t))) 0 24 0) 0 25 0 0 22 = nI (sN b n t) := by rw [up2_j (by decide), up2_j (by decide), up2_j (by decide)]; exact g2
  have e23 : up2 (up2 (up2 J1 0 23 (nI (sN b n t))) 0 24 0) 0 25 0 0 23 = nI (sN b n t) := by rw [up2_j (by decide), up2_j (by decide), up2_s]
  have e24 : up2 (up2 (up2 J1 0 23 (nI (sN b n t))) 0 24 0) 0 25 0 0 24 = 0 := by rw [up2_j (by decide), up2_s]
  have e25 : up2 (up2 (up2 J1 0 23 (nI (sN b n t))) 0 24 0) 0 25 0 0 25 = 0 := up2_s
  have hF : F_X8_next fu (mkM J) 0 = B_X8_next_52 fu 0 (mkM J1) := g3
  rw [hF]
  unfold B_X8_next_52
  rw [M_gI, bind_some', g2, M_pI, bind_some', M_pI, bind_some', M_pI, bind_some']
  generalize up2 (up2 (up2 J1 0 23 (nI (sN b n t))) 0 24 0) 0 25 0 = J2 at s1 B1 W1 e22 e23 e24 e25 ⊢
  rw [M_gI, bind_some', M_gI, bind_some', e22, B1.2.1]
  by_cases hs : sN b n t = n
  · rw [if_pos (by rw [hs])]
    have et : (tkN b n).1 t = 0 := if_pos hs
    refine ⟨J2, s1, ?_, e23, by rw [et, e24]; rfl, fun h => (by rw [et] at h; cases h), rfl⟩
    rw [e22, pN_s]
    unfold enN
    rw [if_pos hs, hs]
  · have hsl : sN b n t < n := by omega
    have hx := (hB.2.2 (sN b n t) hsl).2
    have hpl := pN_lt hsl
    rw [if_neg (fun q => hs (nI_inj (by omega) (by omega) q)), M_r9, bind_some', bind_some', m7 B1 hsl, bind_some', m_inL hx, b2_some, kN_w hsl]
    cases hlt : ltB (b (sN b n t)) with
    | true =>
      rw [if_neg bIt]
      have hw := wrd_lt hsl hlt
      have hend : pN b n (t + 1) < n → ltB (b (pN b n (t + 1))) = false := by
        intro h
        have hp := pN_s (b := b) (n := n) (t := t)
        unfold enN at hp
        rw [if_neg hs, if_pos hlt] at hp
        have g := (pas_sp (p := ltB) (b := b) (n := n) n (sN b n t + 1) (by omega) (by omega)).2.2.2
        rw [← hp] at g
        exact g h
      obtain ⟨J3, f1, f2, f3⟩ := m_run (fu := fu) pl hend (pN b n (t + 1) - sN b n t) (sN b n t) fu J2 (by omega) (by omega) B1 e22 hw
      rw [f3]
      unfold B_X8_next_146
      have f23 : J3 0 23 = nI (sN b n t) := by rw [f1.2 23 (by decide)]; exact e23
      have wd : F_X8_wordFrom fu (mkM J3) 0 (nI (sN b n t)) (nI (pN b n (t + 1))) = some (nI (rwf (fun x => mt b (sN b n t) (pN b n (t + 1)) (prW x - 9)) 12 0), mkM J3) := m_word (BM_s B1 f1 (by decide)) (WM_s W1 f1) (by omega) pl hw (by omega) 12 0 fu rfl (by omega)
      rw [M_gI, bind_some', M_gI, bind_some', f23, f2, M_ob, bind_some', wd, b2_some]
      have hK : kN b (sN b n t) (pN b n (t + 1)) = (if rwf (fun x => mt b (sN b n t) (pN b n (t + 1)) (prW x - 9)) 12 0 = 12 then 1 else prW (rwf (fun x => mt b (sN b n t) (pN b n (t + 1)) (prW x - 9)) 12 0)) := by
        unfold kN
        rw [if_neg (by rw [lt_dg hlt]; decide), if_pos hlt]
        exact two_w
      have hr : rwf (fun x => mt b (sN b n t) (pN b n (t + 1)) (prW x - 9)) 12 0 ≤ 12 := by
        rcases rwf_in (m := fun x => mt b (sN b n t) (pN b n (t + 1)) (prW x - 9)) 12 0 with k | k <;> omega
      have hrv : ∀ K, (tkN b n).1 t = K → rvl (tkN b n) t = if K = 2 then nI ((tkN b n).2 t) else if K ≤ 12 then nI (K - 10) else nI (K - 16) := fun K e => by unfold rvl; rw [e]
      have hrv := hrv _ (kN_w hsl)
      rw [hrv]
      generalize rwf (fun x => mt b (sN b n t) (pN b n (t + 1)) (prW x - 9)) 12 0 = r at hK hr ⊢
      rw [hK]
      have fin : ∀ v24 v25 : Int32, FN [22, 23, 24, 25] J (up2 (up2 J3 0 24 v24) 0 25 v25) := fun v24 v25 => FN_tr s1 (FN_tr (FN_wk f1 (by decide)) (FN_tr (FN_0 (by decide)) (FN_0 (by decide))))
      have f22 : ∀ v24 v25 : Int32, up2 (up2 J3 0 24 v24) 0 25 v25 0 22 = nI (pN b n (t + 1)) := fun v24 v25 => by rw [up2_j (by decide), up2_j (by decide)]; exact f2
      have f23 : ∀ v24 v25 : Int32, up2 (up2 J3 0 24 v24) 0 25 v25 0 23 = nI (sN b n t) := fun v24 v25 => by rw [up2_j (by decide), up2_j (by decide)]; exact f23
      have f24 : ∀ v24 v25 : Int32, up2 (up2 J3 0 24 v24) 0 25 v25 0 24 = v24 := fun v24 v25 => by rw [up2_j (by decide), up2_s]
      have f25 : ∀ v24 v25 : Int32, up2 (up2 J3 0 24 v24) 0 25 v25 0 25 = v25 := fun v24 v25 => up2_s
      unfold B_X8_next_195 B_X8_next_211 B_X8_next_403
      by_cases h3 : r < 3
      · have hp : prW r = r + 10 := if_pos h3
        rw [if_neg (show ¬ r = 12 by omega), if_neg (show ¬ (3 : Int32) ≤ nI r by rw [lit 3]; exact nI_ge h3 (by decide)), M_pI, bind_some', if_neg (show ¬ (3 : Int32) ≤ nI r by rw [lit 3]; exact nI_ge h3 (by decide)), M_pI, bind_some', rt_3 r (by omega), if_pos h3]
        refine ⟨_, fin _ _, f22 _ _, f23 _ _, f24 _ _, fun _ => ?_, rfl⟩
        rw [f25, hp, if_neg (by omega), if_pos (by omega), Nat.add_sub_cancel]
      · rw [if_pos (show (3 : Int32) ≤ nI r by rw [lit 3]; exact nI_le (by omega) (by omega))]
        by_cases h9 : r < 9
        · have hp : prW r = r + 13 := by unfold prW; rw [if_neg h3, if_pos h9]
          rw [if_neg (show ¬ r = 12 by omega), if_neg (show ¬ (9 : Int32) ≤ nI r by rw [lit 9]; exact nI_ge h9 (by decide)), M_pI, bind_some', if_pos (show (3 : Int32) ≤ nI r by rw [lit 3]; exact nI_le (by omega) (by omega)), M_pI, bind_some', rt_3 r (by omega), if_neg h3, if_pos h9]
          refine ⟨_, fin _ _, f22 _ _, f23 _ _, f24 _ _, fun _ => ?_, rfl⟩
          rw [f25, hp, if_neg (by omega), if_neg (by omega), lit 3, pk_sub (by omega)]
          exact congrArg nI (by omega)
        · rw [if_pos (show (9 : Int32) ≤ nI r by rw [lit 9]; exact nI_le (by omega) (by omega))]
          by_cases h12 : r = 12
          · rw [if_pos h12, if_pos (show nI r = 12 by rw [h12]; rfl), M_pI, bind_some', if_pos (show (3 : Int32) ≤ nI r by rw [lit 3]; exact nI_le (by omega) (by omega)), M_pI, bind_some']
            exact ⟨_, fin _ _, f22 _ _, f23 _ _, f24 _ _, fun h => (by cases h), rfl⟩
          · rw [if_neg h12, if_neg (show ¬ nI r = 12 from fun q => h12 (nI_inj (by omega) (by decide) q)), M_pI, bind_some', if_pos (show (3 : Int32) ≤ nI r by rw [lit 3]; exact nI_le (by omega) (by omega)), M_pI, bind_some', rt_3 r (by omega), if_neg h3, if_neg h9, vl_3 r (by omega) (by omega)]
            refine ⟨_, fin _ _, f22 _ _, f23 _ _, ?_, fun h => (by cases h), rfl⟩
            rw [f24, lit 4, nI_add, lit 9, pk_sub (by omega)]
            exact congrArg nI (by omega)
    | false =>
      rw [if_pos bIf, m_inD hx, b2_some]
      cases hdg : dgB (b (sN b n t)) with
      | true =>
        rw [if_neg bIt]
        have hw := num_dg hsl hdg
        have hend : pN b n (t + 1) < n → dgB (b (pN b n (t + 1))) = false := by
          intro h
          have hp := pN_s (b := b) (n := n) (t := t)
          unfold enN at hp
          rw [if_neg hs, if_neg (by rw [hlt]; decide), if_pos hdg] at hp
          have g := (pas_sp (p := dgB) (b := b) (n := n) n (sN b n t + 1) (by omega) (by omega)).2.2.2
          rw [← hp] at g
          exact g h
        obtain ⟨J3, f1, f2, f3, f4⟩ := m_dig (s := sN b n t) (fu := fu) pl hend (pN b n (t + 1) - sN b n t) 0 fu J2 (by omega) (by omega) B1 e22 (fun _ => e25) hw
        have f4 : B_X8_next_230 fu 0 fu (mkM J2) 0 = B_X8_next_309 fu 0 (mkM J3) (nI (pN b n (t + 1) - sN b n t)) := f4
        have hK : kN b (sN b n t) (pN b n (t + 1)) = (if pN b n (t + 1) - sN b n t ≤ 4 then 2 else 1) := if_pos hdg
        rw [f4]
        unfold B_X8_next_309 B_X8_next_320 B_X8_next_403
        have fin : ∀ v24 : Int32, FN [22, 23, 24, 25] J (up2 J3 0 24 v24) := fun v24 => FN_tr s1 (FN_tr (FN_wk f1 (by decide)) (FN_0 (by decide)))
        have f22 : ∀ v24 : Int32, up2 J3 0 24 v24 0 22 = nI (pN b n (t + 1)) := fun v24 => by rw [up2_j (by decide)]; exact f2
        have f23 : ∀ v24 : Int32, up2 J3 0 24 v24 0 23 = nI (sN b n t) := fun v24 => by rw [up2_j (by decide), f1.2 23 (by decide)]; exact e23
        by_cases h4 : pN b n (t + 1) - sN b n t ≤ 4
        · rw [if_pos h4] at hK
          rw [if_pos (show nI (pN b n (t + 1) - sN b n t) ≤ 4 by rw [lit 4]; exact nI_le h4 (by decide)), M_pI, bind_some', hK]
          refine ⟨_, fin _, f22 _, f23 _, up2_s, fun _ => ?_, rfl⟩
          rw [up2_j (by decide), f3 h4]
          unfold rvl
          rw [kN_w hsl, hK, if_pos rfl]
          rfl
        · rw [if_neg h4] at hK
          rw [if_neg (show ¬ nI (pN b n (t + 1) - sN b n t) ≤ 4 by rw [lit 4]; exact nI_ge (by omega) (by omega)), M_pI, bind_some', hK]
          exact ⟨_, fin _, f22 _, f23 _, up2_s, fun h => (by cases h), rfl⟩
      | false =>
        rw [if_pos bIf]
        have hK : kN b (sN b n t) (pN b n (t + 1)) = (if sgB (b (sN b n t)) = true then b (sN b n t) else 1) := by
          unfold kN
          rw [if_neg (by rw [hdg]; decide), if_neg (by rw [hlt]; decide)]
        have hp : pN b n (t + 1) = sN b n t + 1 := by
          rw [pN_s]
          unfold enN
          rw [if_neg hs, if_neg (by rw [hlt]; decide), if_neg (by rw [hdg]; decide)]
        have fin : ∀ v24 : Int32, FN [22, 23, 24, 25] J (up2 (up2 J2 0 24 v24) 0 22 (nI (sN b n t + 1))) := fun v24 => FN_tr s1 (FN_tr (FN_0 (by decide)) (FN_0 (by decide)))
        have tail : ∀ v24 : Int32, v24 = rtk (kN b (sN b n t) (pN b n (t + 1))) → vlK (kN b (sN b n t) (pN b n (t + 1))) = false → ∃ J', FN [22, 23, 24, 25] J J' ∧ J' 0 22 = nI (pN b n (t + 1)) ∧ J' 0 23 = nI (sN b n t) ∧ J' 0 24 = rtk (kN b (sN b n t) (pN b n (t + 1))) ∧ (vlK (kN b (sN b n t) (pN b n (t + 1))) = true → J' 0 25 = rvl (tkN b n) t) ∧ B_X8_next_390 fu 0 (mkM J2) v24 (some 0) = some (mkM J') := by
          intro v24 h1 h2
          refine ⟨_, fin v24, by rw [up2_s, hp], by rw [up2_j (by decide), up2_j (by decide)]; exact e23, by rw [up2_j (by decide), up2_s]; exact h1, fun h => (by rw [h2] at h; cases h), ?_⟩
          unfold B_X8_next_390 B_X8_next_403
          rw [M_pI, bind_some', M_gI, bind_some', up2_j (by decide), e22, nI_1, M_pI, bind_some']
        generalize sN b n t = s at *
        unfold B_X8_next_374 B_X8_next_379
        rw [if_neg (show ¬ (1 : Int32) = 0 by decide), if_pos (show (0 : Int32) = 0 from rfl)]
        by_cases hsg : sgB (b s) = true
        · have hrt := rt_s (b s) (by have := of_decide_eq_true hsg; omega) hsg
          rw [if_pos hsg] at hK
          have T := tail (nI (b s)) (by rw [hK]; exact hrt.1.symm) (by rw [hK]; exact hrt.2)
          obtain ⟨J', a1, a2, a3, a4, a5, a6⟩ := T
          refine ⟨J', a1, a2, a3, a4, a5, ?_⟩
          have hd := of_decide_eq_true hsg
          rw [a6]
          rcases hd with e | e | e | e | e | e | e | e <;> rw [e] <;> rfl
        · rw [if_neg hsg] at hK
          have T := tail (-1) (by rw [hK]; rfl) (by rw [hK]; rfl)
          obtain ⟨J', a1, a2, a3, a4, a5, a6⟩ := T
          refine ⟨J', a1, a2, a3, a4, a5, ?_⟩
          have ne : ∀ c : Nat, c < 256 → sgB c = true → ¬ nI (b s) = nI c := fun c h1 h2 q => by
            rw [nI_inj (by omega) (by omega) q] at hsg
            exact hsg h2
          rw [if_neg (show ¬ nI (b s) = 40 from ne 40 (by decide) rfl), if_neg (show ¬ nI (b s) = 41 from ne 41 (by decide) rfl), if_neg (show ¬ nI (b s) = 59 from ne 59 (by decide) rfl), if_neg (show ¬ nI (b s) = 43 from ne 43 (by decide) rfl), if_neg (show ¬ nI (b s) = 45 from ne 45 (by decide) rfl), if_neg (show ¬ nI (b s) = 42 from ne 42 (by decide) rfl), if_neg (show ¬ nI (b s) = 60 from ne 60 (by decide) rfl), if_neg (show ¬ nI (b s) = 61 from ne 61 (by decide) rfl)]
          exact a6
theorem m_NX {J : Nat → Nat → Int32} {b : Nat → Nat} {n N fu : Nat} (hB : BM J b n) (hW : WM J) (hfu : 400 < fu) : NX fu J (tkN b n) N (sN b n) (pN b n) := by
  intro t ht J' h7 h16 h10 h22
  have B' : BM J' b n := by
    unfold BM
    rw [h7, h10]
    exact hB
  have W' : WM J' := by
    unfold WM
    rw [h16]
    exact hW
  obtain ⟨J'', a1, a2, a3, a4, a5, a6⟩ := m_next B' W' h22 hfu
  exact ⟨J'', a1.1, a1.2, a2, a3, a4, a5, a6⟩
