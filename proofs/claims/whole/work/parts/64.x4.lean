/-! BOUNDS -/
theorem half_n : ∀ n, n < 100 → nI n / 2 = nI (n / 2) := by decide +kernel
theorem clamp_n {x : Int32} {m : Nat} (hm : m < 2 ^ 31) : ∃ n, n ≤ m ∧ clamp x 0 (nI m) = nI n := by
  unfold clamp
  by_cases h1 : (0 : Int32) ≤ x
  · rw [if_pos h1]
    by_cases h2 : x ≤ nI m
    · rw [if_pos h2]
      have e0 : (0 : Int32).toInt = 0 := rfl
      rw [le_I, e0] at h1
      rw [le_I, nI_toInt hm] at h2
      refine ⟨x.toInt.toNat, by omega, ?_⟩
      rw [eq_I, nI_toInt (by omega)]
      omega
    · rw [if_neg h2]
      exact ⟨m, Nat.le_refl _, rfl⟩
  · rw [if_neg h1]
    exact ⟨0, by omega, rfl⟩
theorem sSays_n {v : Ev} {part p k : Nat} : ∃ n, n ≤ (if part = 0 then 20 else 99) ∧ sSays v part p k = nI n := by
  unfold sSays
  by_cases h : part = 0
  · rw [if_pos h, if_pos h]
    exact clamp_n (m := 20) (by decide)
  · rw [if_neg h, if_neg h]
    exact clamp_n (m := 99) (by decide)
theorem sStrokes_n {v : Ev} {p k : Nat} (hok : okEv v) (hp : p < vP v) : ∃ n, n ≤ 58 ∧ sStrokes v p k = nI n := by
  obtain ⟨n, hn, en⟩ := sSays_n (v := v) (part := 0) (p := p) (k := k)
  obtain ⟨-, ⟨m, hm, em⟩, -, -⟩ := hok.1 p hp
  have hn : n ≤ 20 := hn
  unfold sStrokes
  rw [en, em]
  split
  · split
    · exact ⟨0, by omega, rfl⟩
    · exact ⟨1, by omega, rfl⟩
  split
  · exact ⟨n + m, by omega, by rw [nI_add]⟩
  split
  · exact ⟨n / 2, by omega, half_n n (by omega)⟩
  split
  · exact ⟨2 * (n + m), by omega, by rw [nI_add, lit 2, nI_mul]⟩
  split
  · split
    · exact ⟨n / 2, by omega, half_n n (by omega)⟩
    · exact ⟨0, by omega, rfl⟩
  exact ⟨n, by omega, rfl⟩
theorem fold_n {f : Nat → Int32} {c : Nat} : ∀ n : Nat, (∀ k, k < n → ∃ m, m ≤ c ∧ f k = nI m) → ∃ m, m ≤ c * n ∧ fold (fun k a => a + f k) n 0 = nI m
  | 0, _ => ⟨0, by omega, rfl⟩
  | n + 1, h => by
    obtain ⟨m, h1, h2⟩ := fold_n n (fun k hk => h k (by omega))
    obtain ⟨m', h3, h4⟩ := h n (by omega)
    refine ⟨m + m', by rw [Nat.mul_succ]; omega, ?_⟩
    show fold (fun k a => a + f k) n 0 + f n = _
    rw [h2, h4, nI_add]
theorem sBeats_n {v : Ev} {p : Nat} (hok : okEv v) (hp : p < vP v) (hW : vW v ≤ 10) : ∃ n, n ≤ 580 ∧ sBeats v p = nI n := by
  obtain ⟨m, h1, h2⟩ := fold_n (f := fun k => if dd v p k then sStrokes v p k else 0) (c := 58) (vW v) (fun k hk => by
    show ∃ m, m ≤ 58 ∧ (if dd v p k then sStrokes v p k else 0) = nI m
    split
    · exact sStrokes_n hok hp
    · exact ⟨0, by omega, rfl⟩)
  exact ⟨m, by omega, h2⟩
theorem sAll_n {v : Ev} (hok : okEv v) (hP : vP v ≤ 6) (hW : vW v ≤ 10) : ∃ n, n ≤ 3480 ∧ sAll v = nI n := by
  obtain ⟨m, h1, h2⟩ := fold_n (f := fun p => sBeats v p) (c := 580) (vP v) (fun k hk => sBeats_n hok hk hW)
  exact ⟨m, by omega, h2⟩
theorem sThought_n {v : Ev} {p : Nat} {b : Int32} : ∃ n, n ≤ 999 ∧ sThought v p b = nI n := clamp_n (m := 999) (by decide)
theorem sThoughtAll_n {v : Ev} (hP : vP v ≤ 6) : ∃ n, n ≤ 5994 ∧ sThoughtAll v = nI n := by
  obtain ⟨m, h1, h2⟩ := fold_n (f := fun p => sThought v p (sBeats v p)) (c := 999) (vP v) (fun k hk => sThought_n)
  exact ⟨m, by omega, h2⟩
theorem sPays_n {v : Ev} {p k : Nat} (hok : okEv v) (hp : p < vP v) : ∃ n, n ≤ 306 ∧ sPays v p k = nI n := by
  obtain ⟨n, hn, en⟩ := sSays_n (v := v) (part := 2) (p := p) (k := k)
  obtain ⟨-, ⟨m, hm, em⟩, -, -⟩ := hok.1 p hp
  have hn : n ≤ 99 := hn
  unfold sPays
  rw [en, em]
  split
  · exact ⟨1, by omega, rfl⟩
  split
  · exact ⟨1, by omega, rfl⟩
  split
  · exact ⟨3 * n + m, by omega, by rw [lit 3, nI_mul, nI_add]⟩
  exact ⟨n, by omega, rfl⟩
/-! THE CLASS, what looking gives -/
theorem nonneg_nlt {b : Nat} (hb : b < 2 ^ 31) : ¬ (nI b < (0 : Int32)) := by
  rw [lit 0]
  exact nI_nlt (by omega) (by omega)
theorem x_catchersAt {q : Xp} {I : Nat → Nat → Int32} {v : Ev} {e fu p b : Nat} (he : isE e) (hR : RX q I e v) (hl : LK I e v p) (hb : b < 2 ^ 31) (hfu : 200 < fu) :
    F_X0_catchersAt fu (mkX q I) e (nI b) = some (sCaught v p (nI b), mkX q I) := by
  obtain ⟨hP, hP6⟩ := hR.1
  obtain ⟨I', hI, h⟩ := loop1z (mkX q) (B_X0_catchersAt_4 fu e (nI b)) (fun k => L_X0_catchersAt_4 k fu e (nI b)) (fun n => rfl) (vP v) (fun o s => s ||| (if o ≠ p ∧ nI b < sSaw v o p then (1 : Int32) <<< (nI o &&& 31) else 0)) 0 (fun _ I' => I' = I) (fun a I' => some (a, mkX q I')) (by
    intro k I' hi
    subst hi
    unfold L_X0_catchersAt_4
    rw [E_gI he, bind_some', hP, if_pos (nI_le (Nat.le_refl _) (by omega))]) (by
    intro k I' j hj hi
    subst hi
    refine ⟨I', rfl, ?_⟩
    unfold L_X0_catchersAt_4 B_X0_catchersAt_32
    rw [E_gI he, bind_some', hP, if_neg (nI_ge hj (by omega)), E_r13 he, bind_some', E_a9 he (by omega), b2_some, (hl j hj).1, nle_I, nI_1]
    unfold sL
    by_cases hjp : j = p
    · rw [if_pos hjp, if_neg (nonneg_nlt hb), if_neg (fun q => q.1 hjp)]
    · rw [if_neg hjp]
      by_cases hc : nI b < sSaw v j p
      · rw [if_pos hc, if_pos ⟨hjp, hc⟩]
      · rw [if_neg hc, if_neg (fun q => hc q.2)]) I rfl fu (by omega)
  rw [hI] at h
  exact h
theorem x_F1doubts {S : Hp} {v : Ev} {o k : Nat} {off : Int32} : F_X1_doubts S (vKind v o) (sSays v 1 o k) off = some (sDoubts v o k off, S) := by
  unfold F_X1_doubts B_X1_doubts_42 sDoubts
  have e : ((2 : Int32) < off) = ¬ (off < 3) := by
    rw [lt_I, lt_I]
    have e2 : (2 : Int32).toInt = 2 := rfl
    have e3 : (3 : Int32).toInt = 3 := rfl
    rw [e2, e3]
    exact propext (by omega)
  by_cases h2 : vKind v o = 2
  · rw [h2]
    by_cases hc : off < 3 <;> simp [e, hc]
  by_cases h3 : vKind v o = 3
  · simp [h3]
  by_cases h4 : vKind v o = 4
  · rw [h4]
    by_cases hc : off < 3 <;> simp [e, hc]
  by_cases h5 : vKind v o = 5
  · simp [h5]
  simp [h2, h3, h4, h5]
theorem zero_sub_n {b : Nat} (hb : b < 2 ^ 31) : ¬ ((0 : Int32) < 0 - nI b) := by
  have e0 : (0 : Int32).toInt = 0 := rfl
  have en : (nI b).toInt = (b : Int) := nI_toInt hb
  rw [lt_I, subI (by rw [e0, en]; omega) (by rw [e0, en]; omega), e0, en]
  omega
theorem x_lossAt {q : Xp} {I : Nat → Nat → Int32} {v : Ev} {e fu p b : Nat} (he : isE e) (hR : RX q I e v) (hl : LK I e v p) (hb : b < 2 ^ 31) (hfu : 200 < fu) :
    F_X0_lossAt fu (mkX q I) e (nI b) = some (sLoss v p (nI b), mkX q I) := by
  obtain ⟨hP, hP6⟩ := hR.1
  obtain ⟨I', hI, h⟩ := loop1z (mkX q) (B_X0_lossAt_4 fu e (nI b)) (fun k => L_X0_lossAt_4 k fu e (nI b)) (fun n => rfl) (vP v) (fun o s => s + (if o ≠ p ∧ 0 < sSaw v o p - nI b then sDoubts v o (sLast v o p) (sSaw v o p - nI b) else 0)) 0 (fun _ I' => I' = I) (fun a I' => some (a, mkX q I')) (by
    intro k I' hi
    subst hi
    unfold L_X0_lossAt_4
    rw [E_gI he, bind_some', hP, if_pos (nI_le (Nat.le_refl _) (by omega))]) (by
    intro k I' j hj hi
    subst hi
    refine ⟨I', rfl, ?_⟩
    obtain ⟨l1, l2⟩ := hl j hj
    unfold L_X0_lossAt_4 B_X0_lossAt_53
    rw [E_gI he, bind_some', hP, if_neg (nI_ge hj (by omega)), E_r13 he, bind_some', E_a9 he (by omega), b2_some, l1, nle_I, nI_1]
    by_cases hc : 0 < sL v p j - nI b
    · have hne : sL v p j ≠ 0 := fun h => zero_sub_n hb (by rw [h] at hc; exact hc)
      have hjp : j ≠ p := fun h => hne (by unfold sL; rw [if_pos h])
      have es : sL v p j = sSaw v j p := by unfold sL; rw [if_neg hjp]
      have ed : dL' v p j = sSays v 1 j (sLast v j p) := by unfold dL'; rw [if_neg hne]
      rw [if_pos hc, E_r1 he, bind_some', E_a1 he (by omega), b2_some, E_r14 he, bind_some', E_a10 he (by omega), b2_some, l2, ed, (hR.2.2.2.1 j hj).1, x_F1doubts, b2_some, if_pos ⟨hjp, by rw [← es]; exact hc⟩, es]
    · rw [if_neg hc]
      have : ¬ (j ≠ p ∧ 0 < sSaw v j p - nI b) := fun q => hc (by unfold sL; rw [if_neg q.1]; exact q.2)
      rw [if_neg this, Int32.add_zero]) I rfl fu (by omega)
  rw [hI] at h
  exact h
theorem x_thoughtAt {q : Xp} {I : Nat → Nat → Int32} {v : Ev} {e fu p b : Nat} (he : isE e) (hR : RX q I e v) (hl : LK I e v p) (hp : p < vP v) (hb : b < 2 ^ 31) (hfu : 200 < fu) :
    F_X0_thoughtAt fu (mkX q I) e (nI p) (nI b) = some (sThought v p (nI b), mkX q I) := by
  have hP6 := hR.1.2
  unfold F_X0_thoughtAt
  rw [E_r4 he, bind_some', E_a4 he (by omega), b2_some, (hR.2.2.2.1 p hp).2.2.2, E_ob he, bind_some', x_lossAt he hR hl hb hfu, b2_some, lit 999, x_bounded (by decide), b2_some]
  rfl
/-! THE CLASS, over everybody -/
theorem x_lb {q : Xp} {I : Nat → Nat → Int32} {v : Ev} {e fu p : Nat} (he : isE e) (hR : RX q I e v) (hok : okEv v) (hp : p < vP v) (hfu : 200 < fu) :
    ∃ I1 I2 b, b ≤ 580 ∧ sBeats v p = nI b ∧ F_X0_look fu (mkX q I) e (nI p) = some (mkX q I1) ∧ F_X0_beats fu (mkX q I1) e (nI p) = some (nI b, mkX q I2) ∧ smx (EL e) I I2 ∧ RX q I2 e v ∧ LK I2 e v p := by
  obtain ⟨I1, ⟨s1, l1⟩, e1⟩ := x_look (fu := fu) he hR hok hp hfu
  obtain ⟨I2, s2, e2⟩ := x_beats (fu := fu) he (RX_L hR s1 he) hok hp hfu
  obtain ⟨b, hb, eb⟩ := sBeats_n hok hp hR.2.1.2
  exact ⟨I1, I2, b, hb, eb, e1, by rw [e2, eb], smx_tr s1 (EL_8 s2), RX_8 (RX_L hR s1 he) s2 he, LK_8 he s2 l1⟩
def sCgt (v : Ev) : Int32 := fold (fun p s => s ||| (if sCaught v p (sBeats v p) = 0 then 0 else (1 : Int32) <<< (nI p &&& 31))) (vP v) 0
def sCat (v : Ev) : Int32 := fold (fun p s => s ||| sCaught v p (sBeats v p)) (vP v) 0
def sSil (v : Ev) : Int32 := fold (fun p s => s ||| (if sBeats v p = 0 then (1 : Int32) <<< (nI p &&& 31) else 0)) (vP v) 0
def sLoud (v : Ev) : Int32 × Int32 := fold (fun p ab => if sBeats v p ≤ ab.2 then ab else (nI p, sBeats v p)) (vP v) (-1, 0)
def sMost (v : Ev) (p : Nat) : Int32 := fold (fun o m => if m < sL v p o then sL v p o else m) (vP v) 0
theorem x_caught {q : Xp} {I : Nat → Nat → Int32} {v : Ev} {e fu : Nat} (he : isE e) (hR : RX q I e v) (hok : okEv v) (hfu : 200 < fu) :
    ∃ I', smx (EL e) I I' ∧ F_X0_caught fu (mkX q I) e = some (sCgt v, mkX q I') := by
  obtain ⟨hP, hP6⟩ := hR.1
  refine loop1z (mkX q) (B_X0_caught_4 fu e) (fun k => L_X0_caught_4 k fu e) (fun n => rfl) (vP v) (fun p s => s ||| (if sCaught v p (sBeats v p) = 0 then 0 else (1 : Int32) <<< (nI p &&& 31))) 0 (fun _ I' => smx (EL e) I I') (fun a I' => some (a, mkX q I')) ?_ ?_ I smx_rf fu (by omega)
  · intro k I' hi
    unfold L_X0_caught_4
    rw [E_gI he, bind_some', hi e (EL_lt he 0 (by decide) rfl), hP, if_pos (nI_le (Nat.le_refl _) (by omega))]
  · intro k I' j hj hi
    obtain ⟨I1, I2, b, hb, eb, e1, e2, s2, r2, l2⟩ := x_lb (fu := fu) he (RX_L hR hi he) hok hj hfu
    refine ⟨I2, smx_tr hi s2, ?_⟩
    unfold L_X0_caught_4 B_X0_caught_37
    rw [E_gI he, bind_some', hi e (EL_lt he 0 (by decide) rfl), hP, if_neg (nI_ge hj (by omega)), E_ob he, bind_some', e1, bind_some', E_ob he, bind_some', e2, b2_some, E_ob he, bind_some', x_catchersAt he r2 l2 (by omega) hfu, b2_some, nI_1, eb]
    by_cases hc : sCaught v j (nI b) = 0
    · rw [if_pos hc, if_pos hc]
    · rw [if_neg hc, if_neg hc]
theorem x_catchersOfAnybody {q : Xp} {I : Nat → Nat → Int32} {v : Ev} {e fu : Nat} (he : isE e) (hR : RX q I e v) (hok : okEv v) (hfu : 200 < fu) :
    ∃ I', smx (EL e) I I' ∧ F_X0_catchersOfAnybody fu (mkX q I) e = some (sCat v, mkX q I') := by
  obtain ⟨hP, hP6⟩ := hR.1
  refine loop1z (mkX q) (B_X0_catchersOfAnybody_4 fu e) (fun k => L_X0_catchersOfAnybody_4 k fu e) (fun n => rfl) (vP v) (fun p s => s ||| sCaught v p (sBeats v p)) 0 (fun _ I' => smx (EL e) I I') (fun a I' => some (a, mkX q I')) ?_ ?_ I smx_rf fu (by omega)
  · intro k I' hi
    unfold L_X0_catchersOfAnybody_4
    rw [E_gI he, bind_some', hi e (EL_lt he 0 (by decide) rfl), hP, if_pos (nI_le (Nat.le_refl _) (by omega))]
  · intro k I' j hj hi
    obtain ⟨I1, I2, b, hb, eb, e1, e2, s2, r2, l2⟩ := x_lb (fu := fu) he (RX_L hR hi he) hok hj hfu
    refine ⟨I2, smx_tr hi s2, ?_⟩
    unfold L_X0_catchersOfAnybody_4
    rw [E_gI he, bind_some', hi e (EL_lt he 0 (by decide) rfl), hP, if_neg (nI_ge hj (by omega)), E_ob he, bind_some', e1, bind_some', E_ob he, bind_some', e2, b2_some, E_ob he, bind_some', x_catchersAt he r2 l2 (by omega) hfu, b2_some, nI_1, eb]
theorem x_thoughtOfAll {q : Xp} {I : Nat → Nat → Int32} {v : Ev} {e fu : Nat} (he : isE e) (hR : RX q I e v) (hok : okEv v) (hfu : 200 < fu) :
    ∃ I', smx (EL e) I I' ∧ F_X0_thoughtOfAll fu (mkX q I) e = some (sThoughtAll v, mkX q I') := by
  obtain ⟨hP, hP6⟩ := hR.1
  refine loop1z (mkX q) (B_X0_thoughtOfAll_4 fu e) (fun k => L_X0_thoughtOfAll_4 k fu e) (fun n => rfl) (vP v) (fun p a => a + sThought v p (sBeats v p)) 0 (fun _ I' => smx (EL e) I I') (fun a I' => some (a, mkX q I')) ?_ ?_ I smx_rf fu (by omega)
  · intro k I' hi
    unfold L_X0_thoughtOfAll_4
    rw [E_gI he, bind_some', hi e (EL_lt he 0 (by decide) rfl), hP, if_pos (nI_le (Nat.le_refl _) (by omega))]
  · intro k I' j hj hi
    obtain ⟨I1, I2, b, hb, eb, e1, e2, s2, r2, l2⟩ := x_lb (fu := fu) he (RX_L hR hi he) hok hj hfu
    refine ⟨I2, smx_tr hi s2, ?_⟩
    unfold L_X0_thoughtOfAll_4
    rw [E_gI he, bind_some', hi e (EL_lt he 0 (by decide) rfl), hP, if_neg (nI_ge hj (by omega)), E_ob he, bind_some', e1, bind_some', E_ob he, bind_some', e2, b2_some, E_ob he, bind_some', x_thoughtAt he r2 l2 hj (by omega) hfu, b2_some, nI_1, eb]
theorem x_silent {q : Xp} {I : Nat → Nat → Int32} {v : Ev} {e fu : Nat} (he : isE e) (hR : RX q I e v) (hok : okEv v) (hfu : 200 < fu) :
    ∃ I', smx (E8 e) I I' ∧ F_X0_silent fu (mkX q I) e = some (sSil v, mkX q I') := by
  obtain ⟨hP, hP6⟩ := hR.1
  refine loop1z (mkX q) (B_X0_silent_4 fu e) (fun k => L_X0_silent_4 k fu e) (fun n => rfl) (vP v) (fun p s => s ||| (if sBeats v p = 0 then (1 : Int32) <<< (nI p &&& 31) else 0)) 0 (fun _ I' => smx (E8 e) I I') (fun a I' => some (a, mkX q I')) ?_ ?_ I smx_rf fu (by omega)
  · intro k I' hi
    unfold L_X0_silent_4
    rw [E_gI he, bind_some', hi e (E8_lt he 0 (by decide) rfl), hP, if_pos (nI_le (Nat.le_refl _) (by omega))]
  · intro k I' j hj hi
    obtain ⟨I1, s1, e1⟩ := x_beats (fu := fu) he (RX_8 hR hi he) hok hj hfu
    refine ⟨I1, smx_tr hi s1, ?_⟩
    unfold L_X0_silent_4 B_X0_silent_28
    rw [E_gI he, bind_some', hi e (E8_lt he 0 (by decide) rfl), hP, if_neg (nI_ge hj (by omega)), E_ob he, bind_some', e1, b2_some, nI_1]
    by_cases hc : sBeats v j = 0
    · rw [if_pos hc, if_pos hc]
    · rw [if_neg hc, if_neg hc]
theorem x_loudest {q : Xp} {I : Nat → Nat → Int32} {v : Ev} {e fu : Nat} (he : isE e) (hR : RX q I e v) (hok : okEv v) (hfu : 200 < fu) :
    ∃ I', smx (E8 e) I I' ∧ F_X0_loudest fu (mkX q I) e = some ((sLoud v).1, mkX q I') := by
  obtain ⟨hP, hP6⟩ := hR.1
  refine loop2z (mkX q) (B_X0_loudest_6 fu e) (fun k => L_X0_loudest_6 k fu e) (fun n => rfl) (vP v) (fun p ab => if sBeats v p ≤ ab.2 then ab else (nI p, sBeats v p)) (-1) 0 (fun _ I' => smx (E8 e) I I') (fun ab I' => some (ab.1, mkX q I')) ?_ ?_ I smx_rf fu (by omega)
  · intro k I' hi
    unfold L_X0_loudest_6
    rw [E_gI he, bind_some', hi e (E8_lt he 0 (by decide) rfl), hP, if_pos (nI_le (Nat.le_refl _) (by omega))]
  · intro k I' j hj hi
    obtain ⟨I1, s1, e1⟩ := x_beats (fu := fu) he (RX_8 hR hi he) hok hj hfu
    refine ⟨I1, smx_tr hi s1, ?_⟩
    generalize fold (fun p ab => if sBeats v p ≤ ab.2 then ab else (nI p, sBeats v p)) j (-1, 0) = ab
    unfold L_X0_loudest_6 B_X0_loudest_32
    rw [E_gI he, bind_some', hi e (E8_lt he 0 (by decide) rfl), hP, if_neg (nI_ge hj (by omega)), E_ob he, bind_some', e1, b2_some, nI_1]
    by_cases hc : sBeats v j ≤ ab.2
    · rw [if_pos hc, if_pos hc]
    · rw [if_neg hc, if_neg hc]
theorem x_mostSightings {q : Xp} {I : Nat → Nat → Int32} {v : Ev} {e fu p : Nat} (he : isE e) (hR : RX q I e v) (hl : LK I e v p) (hfu : 200 < fu) :
    F_X0_mostSightings fu (mkX q I) e = some (sMost v p, mkX q I) := by
  obtain ⟨hP, hP6⟩ := hR.1
  obtain ⟨I', hI, h⟩ := loop1z (mkX q) (B_X0_mostSightings_4 fu e) (fun k => L_X0_mostSightings_4 k fu e) (fun n => rfl) (vP v) (fun o m => if m < sL v p o then sL v p o else m) 0 (fun _ I' => I' = I) (fun a I' => some (a, mkX q I')) (by
    intro k I' hi
    subst hi
    unfold L_X0_mostSightings_4
    rw [E_gI he, bind_some', hP, if_pos (nI_le (Nat.le_refl _) (by omega))]) (by
    intro k I' j hj hi
    subst hi
    refine ⟨I', rfl, ?_⟩
    unfold L_X0_mostSightings_4
    rw [E_gI he, bind_some', hP, if_neg (nI_ge hj (by omega)), E_r13 he, bind_some', E_a9 he (by omega), b2_some, (hl j hj).1, nI_1]) I rfl fu (by omega)
  rw [hI] at h
  exact h
def sPrice (v : Ev) (p : Nat) (set : Int32) : Int32 := fold (fun k a => a + (if bt set (nI k) then sPays v p k else 0)) (vW v) 0
theorem x_F1price {S : Hp} {v : Ev} {p k : Nat} : F_X1_price S (vKind v p) (sSays v 2 p k) (vMore v p) = some (sPays v p k, S) := by
  unfold F_X1_price sPays
  by_cases h1 : vKind v p = 1
  · simp [h1]
  by_cases h2 : vKind v p = 2
  · simp [h2]
  by_cases h3 : vKind v p = 3
  · simp [h3]
  by_cases h4 : vKind v p = 4
  · simp [h4]
  simp [h1, h2, h3, h4]
theorem x_price {q : Xp} {I : Nat → Nat → Int32} {v : Ev} {e fu p : Nat} {set : Int32} (he : isE e) (hR : RX q I e v) (hok : okEv v) (hp : p < vP v) (hfu : 200 < fu) :
    ∃ I', smx (E8 e) I I' ∧ F_X0_price fu (mkX q I) e (nI p) set = some (sPrice v p set, mkX q I') := by
  obtain ⟨hW, hW10⟩ := hR.2.1
  have hP6 := hR.1.2
  refine loop1z (mkX q) (B_X0_price_5 fu e (nI p) set) (fun k => L_X0_price_5 k fu e (nI p) set) (fun n => rfl) (vW v) (fun k a => a + (if bt set (nI k) then sPays v p k else 0)) 0 (fun _ I' => smx (E8 e) I I') (fun a I' => some (a, mkX q I')) ?_ ?_ I smx_rf fu (by omega)
  · intro k I' hi
    unfold L_X0_price_5
    rw [E_gI he, bind_some', hi e (E8_lt he 0 (by decide) rfl), hW, if_pos (nI_le (Nat.le_refl _) (by omega))]
  · intro k I' j hj hi
    have hR' := RX_8 hR hi he
    unfold L_X0_price_5 B_X0_price_53
    rw [E_gI he, bind_some', hR'.2.1.1, if_neg (nI_ge hj (by omega)), x_hasBit, b2_some, bI_ne, nI_1]
    by_cases hb : bt set (nI j) = true
    · obtain ⟨I1, s1, e1⟩ := x_says (part := 2) (fu := fu) he hR' hok (by decide) hp hj hfu
      have hR1 := RX_8 hR' s1 he
      refine ⟨I1, smx_tr hi s1, ?_⟩
      rw [if_pos hb, if_pos hb, E_r1 he, bind_some', E_a1 he (by omega), b2_some, E_ob he, bind_some', lit 2, e1, b2_some, E_r2 he, bind_some', E_a2 he (by omega), b2_some, (hR'.2.2.2.1 p hp).1, (hR1.2.2.2.1 p hp).2.1, x_F1price, b2_some]
    · refine ⟨I', hi, ?_⟩
      rw [if_neg hb, if_neg hb, Int32.add_zero]
