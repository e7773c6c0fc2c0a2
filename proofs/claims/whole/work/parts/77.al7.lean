/-! one evening out of another; the image -/
def ET (e a : Nat) : Prop := a = e ∨ (e + 1 ≤ a ∧ a ≤ e + 7)
theorem x_takeFrom {q : Xp} {I : Nat → Nat → Int32} {v : Ev} {e s fu : Nat} (he : isE e) (hs : isE s) (hes : e ≠ s) (hE : EX I s v) (hl : ∀ K : Nat → Nat → Int32, okRb (mkX q K) (lawR q s) = true) (hfu : 200 < fu) :
    ∃ I', smx (ET e) I I' ∧ EX I' e v ∧ I' e 10 = I s 10 ∧ F_X0_takeFrom fu (mkX q I) e (some s) = some (mkX (setL q e (lawR q s)) I') := by
  have hn : ∀ j, j ≤ 7 → ¬ ET e (s + j) := fun j hj h => by
    unfold ET at h
    rcases he with rfl | rfl | rfl <;> rcases hs with rfl | rfl | rfl <;> omega
  have hse : s ≠ e := fun h => hes h.symm
  have up : ∀ {J : Nat → Nat → Int32} {a i : Nat} {x : Int32}, smx (ET e) I J → ET e a → smx (ET e) I (up2 J a i x) := fun h h' => smx_tr h (smx_up h')
  unfold F_X0_takeFrom
  rw [E_gI hs, bind_some', E_pI he, bind_some', E_gI hs, bind_some', up2_o hse, E_pI he, bind_some', E_gI hs, bind_some', up2_o hse, up2_o hse, E_pI he, bind_some', E_gI hs, bind_some', up2_o hse, up2_o hse, up2_o hse, E_pI he, bind_some', E_law hs, bind_some', E_pR he (hl _), bind_some']
  have s0 : smx (ET e) I (up2 (up2 (up2 (up2 I e 0 (I s 0)) e 5 (I s 5)) e 9 (I s 9)) e 10 (I s 10)) := up (up (up (up smx_rf (Or.inl rfl)) (Or.inl rfl)) (Or.inl rfl)) (Or.inl rfl)
  have g0 : up2 (up2 (up2 (up2 I e 0 (I s 0)) e 5 (I s 5)) e 9 (I s 9)) e 10 (I s 10) e 0 = I s 0 := by rw [up2_j (by decide), up2_j (by decide), up2_j (by decide), up2_s]
  have g5 : up2 (up2 (up2 (up2 I e 0 (I s 0)) e 5 (I s 5)) e 9 (I s 9)) e 10 (I s 10) e 5 = I s 5 := by rw [up2_j (by decide), up2_j (by decide), up2_s]
  have g9 : up2 (up2 (up2 (up2 I e 0 (I s 0)) e 5 (I s 5)) e 9 (I s 9)) e 10 (I s 10) e 9 = I s 9 := by rw [up2_j (by decide), up2_s]
  have g10 : up2 (up2 (up2 (up2 I e 0 (I s 0)) e 5 (I s 5)) e 9 (I s 9)) e 10 (I s 10) e 10 = I s 10 := up2_s
  generalize up2 (up2 (up2 (up2 I e 0 (I s 0)) e 5 (I s 5)) e 9 (I s 9)) e 10 (I s 10) = I0 at s0 g0 g5 g9 g10 ⊢
  generalize setL q e (lawR q s) = q'
  obtain ⟨I1, ⟨s1, f1, r1⟩, h1⟩ := loop0z (mkX q') (B_X0_takeFrom_42 fu e (some s)) (fun k => L_X0_takeFrom_42 k fu e (some s)) (fun n => rfl) 6 (fun j I' => smx (ET e) I I' ∧ I' e = I0 e ∧ ∀ i, i < j → I' (e + 1) i = I (s + 1) i ∧ I' (e + 2) i = I (s + 2) i ∧ I' (e + 3) i = I (s + 3) i ∧ I' (e + 4) i = I (s + 4) i) (fun I' => B_X0_takeFrom_120 fu e (some s) fu (mkX q' I') 0) (by
    intro k I' hi
    unfold L_X0_takeFrom_42
    rw [if_pos (show (6 : Int32) ≤ nI 6 by decide)]) (by
    intro k I' j hj hi
    obtain ⟨hi, hf, hr⟩ := hi
    refine ⟨up2 (up2 (up2 (up2 I' (e + 1) j (I (s + 1) j)) (e + 2) j (I (s + 2) j)) (e + 3) j (I (s + 3) j)) (e + 4) j (I (s + 4) j), ⟨up (up (up (up hi (Or.inr (by omega))) (Or.inr (by omega))) (Or.inr (by omega))) (Or.inr (by omega)), ?_, fun i hi' => ?_⟩, ?_⟩
    · funext b
      rw [up2_o (by omega), up2_o (by omega), up2_o (by omega), up2_o (by omega), hf]
    · rw [up2_o (by omega), up2_o (by omega), up2_o (by omega), up2_row, up2_o (by omega), up2_o (by omega), up2_row, up2_o (by omega), up2_o (by omega), up2_row, up2_o (by omega), up2_o (by omega), up2_row, up2_o (by omega), up2_o (by omega), up2_o (by omega)]
      by_cases hij : i = j
      · subst hij
        rw [if_pos rfl, if_pos rfl, if_pos rfl, if_pos rfl]
        exact ⟨rfl, rfl, rfl, rfl⟩
      · rw [if_neg hij, if_neg hij, if_neg hij, if_neg hij]
        exact hr i (by omega)
    · have d : ∀ a b, a ≤ 7 → b ≤ 7 → s + a ≠ e + b := fun a b ha hb => by
        rcases he with rfl | rfl | rfl <;> rcases hs with rfl | rfl | rfl <;> omega
      unfold L_X0_takeFrom_42
      rw [if_neg (by rw [lit 6]; exact nI_ge (by omega) (by omega)), E_r1 he, bind_some', E_r1 hs, bind_some', E_a1 hs hj, b2_some, hi _ (hn 1 (by decide)), E_s1 he hj, bind_some', E_r2 he, bind_some', E_r2 hs, bind_some', E_a2 hs hj, b2_some, up2_o (d 2 1 (by decide) (by decide)), hi _ (hn 2 (by decide)), E_s2 he hj, bind_some', E_r3 he, bind_some', E_r3 hs, bind_some', E_a3 hs hj, b2_some, up2_o (d 3 2 (by decide) (by decide)), up2_o (d 3 1 (by decide) (by decide)), hi _ (hn 3 (by decide)), E_s3 he hj, bind_some', E_r4 he, bind_some', E_r4 hs, bind_some', E_a4 hs hj, b2_some, up2_o (d 4 3 (by decide) (by decide)), up2_o (d 4 2 (by decide) (by decide)), up2_o (d 4 1 (by decide) (by decide)), hi _ (hn 4 (by decide)), E_s4 he hj, bind_some', nI_1]) I0 ⟨s0, rfl, fun i hi => by omega⟩ fu (by omega)
  obtain ⟨I2, ⟨s2, f2, r2, r3⟩, h2⟩ := loop0z (mkX q') (B_X0_takeFrom_120 fu e (some s)) (fun k => L_X0_takeFrom_120 k fu e (some s)) (fun n => rfl) 10 (fun j I' => smx (ET e) I I' ∧ I' e = I0 e ∧ (∀ i, i < 6 → I' (e + 1) i = I (s + 1) i ∧ I' (e + 2) i = I (s + 2) i ∧ I' (e + 3) i = I (s + 3) i ∧ I' (e + 4) i = I (s + 4) i) ∧ ∀ i, i < j → I' (e + 5) i = I (s + 5) i ∧ I' (e + 6) i = I (s + 6) i ∧ I' (e + 7) i = I (s + 7) i) (fun I' => some (mkX q' I')) (by
    intro k I' hi
    unfold L_X0_takeFrom_120
    rw [if_pos (show (10 : Int32) ≤ nI 10 by decide)]) (by
    intro k I' j hj hi
    obtain ⟨hi, hf, hr4, hr⟩ := hi
    refine ⟨up2 (up2 (up2 I' (e + 5) j (I (s + 5) j)) (e + 6) j (I (s + 6) j)) (e + 7) j (I (s + 7) j), ⟨up (up (up hi (Or.inr (by omega))) (Or.inr (by omega))) (Or.inr (by omega)), ?_, fun i hi' => ?_, fun i hi' => ?_⟩, ?_⟩
    · funext b
      rw [up2_o (by omega), up2_o (by omega), up2_o (by omega), hf]
    · have o : ∀ a, a < 5 → up2 (up2 (up2 I' (e + 5) j (I (s + 5) j)) (e + 6) j (I (s + 6) j)) (e + 7) j (I (s + 7) j) (e + a) i = I' (e + a) i := fun a ha => by rw [up2_o (by omega), up2_o (by omega), up2_o (by omega)]
      rw [o 1 (by decide), o 2 (by decide), o 3 (by decide), o 4 (by decide)]
      exact hr4 i hi'
    · rw [up2_o (by omega), up2_o (by omega), up2_row, up2_o (by omega), up2_row, up2_o (by omega), up2_row, up2_o (by omega), up2_o (by omega)]
      by_cases hij : i = j
      · subst hij
        rw [if_pos rfl, if_pos rfl, if_pos rfl]
        exact ⟨rfl, rfl, rfl⟩
      · rw [if_neg hij, if_neg hij, if_neg hij]
        exact hr i (by omega)
    · have d : ∀ a b, a ≤ 7 → b ≤ 7 → s + a ≠ e + b := fun a b ha hb => by
        rcases he with rfl | rfl | rfl <;> rcases hs with rfl | rfl | rfl <;> omega
      unfold L_X0_takeFrom_120
      rw [if_neg (by rw [lit 10]; exact nI_ge (by omega) (by omega)), E_r6 he, bind_some', E_r6 hs, bind_some', E_a5 hs hj, b2_some, hi _ (hn 5 (by decide)), E_s5 he hj, bind_some', E_r7 he, bind_some', E_r7 hs, bind_some', E_a6 hs hj, b2_some, up2_o (d 6 5 (by decide) (by decide)), hi _ (hn 6 (by decide)), E_s6 he hj, bind_some', E_r8 he, bind_some', E_r8 hs, bind_some', E_a7 hs hj, b2_some, up2_o (d 7 6 (by decide) (by decide)), up2_o (d 7 5 (by decide) (by decide)), hi _ (hn 7 (by decide)), E_s7 he hj, bind_some', nI_1]) I1 ⟨s1, f1, r1, fun i hi => by omega⟩ fu (by omega)
  refine ⟨I2, s2, ?_, by rw [f2]; exact g10, h1.trans h2⟩
  obtain ⟨⟨a1, a2⟩, ⟨b1, b2⟩, c1, c2, c3⟩ := hE
  refine ⟨⟨by rw [f2, g0]; exact a1, a2⟩, ⟨by rw [f2, g5]; exact b1, b2⟩, by rw [f2, g9]; exact c1, fun p hp => ?_, fun k hk => ?_⟩
  · obtain ⟨y1, y2, y3, y4⟩ := r2 p (by omega)
    rw [y1, y2, y3, y4]
    exact c2 p hp
  · obtain ⟨y1, y2, y3⟩ := r3 k (by omega)
    rw [y1, y2, y3]
    exact c3 k hk
