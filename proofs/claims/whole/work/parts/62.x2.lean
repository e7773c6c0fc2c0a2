/-! THE CLASS, what a law says, strokes, beats -/
theorem x_value {q : Xp} {I : Nat → Nat → Int32} {v : Ev} {t e fu part : Nat} {f : Nat → Int32} (he : isE e) (ht : t < q.1) (hc3 : q.2.1 t = vBnd v 3) (hl : okLaw v) (hends : ∀ i, i < 3 → I (54 + 4 * t) i = nI (vBnd v (i + 1))) (hc : ∀ i, i < vBnd v 3 → I (55 + 4 * t) i = tr (vCode v i)) (hf : ∀ i, i < 6 → I (e + 8) i = f i) (hpart : part < 3) (hfu : 200 < fu) :
    ∃ I', F_X2_value fu (mkX q I) (53 + 4 * t) (nI part) (some (e + 8)) = some (raw v part f, mkX q I') ∧ smx ES I I' := by
  obtain ⟨b0, b1, b2', b3, b160, hw⟩ := hl
  have hen : vBnd v (part + 1) ≤ vBnd v 3 := by rcases (show part = 0 ∨ part = 1 ∨ part = 2 by omega) with rfl | rfl | rfl <;> (try simp) <;> omega
  have hst : vBnd v part ≤ vBnd v (part + 1) := by rcases (show part = 0 ∨ part = 1 ∨ part = 2 by omega) with rfl | rfl | rfl <;> (try simp) <;> omega
  have main : ∀ m, 160 < m → ∃ I', B_X2_value_44 fu (53 + 4 * t) (some (e + 8)) (nI (vBnd v (part + 1))) m (mkX q I) (nI 0) (nI (vBnd v part)) = some (raw v part f, mkX q I') ∧ smx ES I I' := fun m hm =>
    x_valueL he ht hc3 b160 hen hc hf (vBnd v (part + 1) - vBnd v part) (vBnd v part) m I [] (by omega) (hw part hpart) trivial (by simp) smx_rf (by omega)
  have emin : (if nI (vBnd v 3) < nI (vBnd v (part + 1)) then nI (vBnd v 3) else nI (vBnd v (part + 1))) = nI (vBnd v (part + 1)) := by
    rw [if_neg (nI_nlt hen (by omega))]
  unfold F_X2_value B_X2_value_42
  rw [W_r ht, bind_some']
  show ∃ I', b2 (F_X7_at (mkX q I) (some (54 + 4 * t)) (nI part)) _ = _ ∧ _
  rw [W_ends ht hpart, b2_some, W_r ht, bind_some']
  show ∃ I', (aL (mkX q I) (some (55 + 4 * t)) 7).bind _ = _ ∧ _
  rw [W_len ht, bind_some', hends part hpart, hc3, emin, lit 0, eq_iff_nI (by omega) (by decide)]
  by_cases h0 : part = 0
  · subst h0
    rw [if_pos rfl]
    have := main fu (by omega)
    rw [b0] at this
    exact this
  · rw [if_neg h0, W_r ht, bind_some', lit 1, pk_sub (by omega)]
    show ∃ I', b2 (F_X7_at (mkX q I) (some (54 + 4 * t)) (nI (part - 1))) _ = _ ∧ _
    rw [W_ends ht (by omega), b2_some, hends (part - 1) (by omega), show part - 1 + 1 = part by omega]
    have e2 : (if nI 0 < nI (vBnd v part) then nI (vBnd v part) else nI 0) = nI (vBnd v part) := by
      by_cases hz : vBnd v part = 0
      · rw [hz, if_neg (nI_nlt (Nat.le_refl _) (by decide))]
      · rw [if_pos (nI_lt (by omega) (by omega))]
    rw [e2]
    exact main fu (by omega)
theorem smx_up8 {I : Nat → Nat → Int32} {e j : Nat} {v : Int32} : smx (E8 e) I (up2 I (e + 8) j v) := smx_up (Or.inr rfl)
theorem x_says {q : Xp} {I : Nat → Nat → Int32} {v : Ev} {e fu part p k : Nat} (he : isE e) (hR : RX q I e v) (hok : okEv v) (hpart : part < 3) (hp : p < vP v) (hk : k < vW v) (hfu : 200 < fu) :
    ∃ I', smx (E8 e) I I' ∧ F_X0_says fu (mkX q I) e (nI part) (nI p) (nI k) = some (sSays v part p k, mkX q I') := by
  obtain ⟨⟨h0, hP6⟩, ⟨h5, hW10⟩, h9, hp', hk', ⟨t, ht, hl, hc3, hends, hcode⟩, hlaw⟩ := hR
  obtain ⟨k1, k2, k3, k4⟩ := hp' p hp
  obtain ⟨d1, d2, d3⟩ := hk' k hk
  obtain ⟨⟨d, hd, ed⟩, ⟨w, hw', ew⟩, ⟨s, hs, es⟩⟩ := hok.2 k hk
  have hx : ∀ I6 : Nat → Nat → Int32, smx (fun a => a = e + 8) I I6 → (∀ i, i < 6 → I6 (e + 8) i = facts v p k i) → ∀ hi : Nat, hi < 2 ^ 31 → ∃ I', smx (E8 e) I I' ∧ B_X0_says_118 fu e (mkX q I6) (nI part) (nI hi) = some (clamp (raw v part (facts v p k)) 0 (nI hi), mkX q I') := by
    intro I6 h6 hf hi hhi
    obtain ⟨I', e1, hs1⟩ := x_value (I := I6) (fu := fu) he ht hc3 hlaw (fun i hi => by rw [h6 _ (by rcases he with rfl | rfl | rfl <;> omega)]; exact hends i hi) (fun i hi => by rw [h6 _ (by rcases he with rfl | rfl | rfl <;> omega)]; exact hcode i hi) hf hpart hfu
    refine ⟨I', smx_tr (smx_wk h6 (fun a ha => Or.inr ha)) (smx_wk hs1 (fun a ha => Or.inl ha)), ?_⟩
    unfold B_X0_says_118
    rw [E_law he, bind_some', E_r12 he, bind_some', hl, W_ob ht, bind_some', e1, b2_some, x_bounded hhi, b2_some]
  have h8 : ∀ {J : Nat → Nat → Int32} {j : Nat} {z : Int32}, smx (fun a => a = e + 8) I J → smx (fun a => a = e + 8) I (up2 J (e + 8) j z) := fun h => smx_tr h (smx_up rfl)
  unfold F_X0_says
  rw [E_law he, bind_some', hl, if_neg (by simp), E_r12 he, bind_some', E_r7 he, bind_some', E_a6 he (by omega), b2_some, d2, lit 0, E_s8 he (by omega), bind_some']
  have g1 := h8 (j := 0) (z := vWt v k) (smx_rf (E := fun a => a = e + 8) (I := I))
  have f1 : up2 I (e + 8) 0 (vWt v k) (e + 8) 0 = vWt v k := up2_s
  generalize up2 I (e + 8) 0 (vWt v k) = I1 at g1 f1 ⊢
  rw [E_r12 he, bind_some', E_r6 he, bind_some', E_a5 he (by omega), b2_some, g1 _ (by omega), d1, ed, x_bitCount (by omega), b2_some, ← ed, lit 1, E_s8 he (by omega), bind_some']
  have g2 := h8 (j := 1) (z := popc (vDo v k)) g1
  have f2 : ∀ i, i < 2 → up2 I1 (e + 8) 1 (popc (vDo v k)) (e + 8) i = facts v p k i := fun i hi => by
    rcases (show i = 0 ∨ i = 1 by omega) with rfl | rfl
    · rw [up2_j (by omega)]; exact f1
    · exact up2_s
  generalize up2 I1 (e + 8) 1 (popc (vDo v k)) = I2 at g2 f2 ⊢
  rw [E_r12 he, bind_some', E_r8 he, bind_some', E_a7 he (by omega), b2_some, g2 _ (by omega), d3, es, x_bitCount (by omega), b2_some, ← es, lit 2, E_s8 he (by omega), bind_some']
  have g3 := h8 (j := 2) (z := popc (vSw v k)) g2
  have f3 : ∀ i, i < 3 → up2 I2 (e + 8) 2 (popc (vSw v k)) (e + 8) i = facts v p k i := fun i hi => by
    by_cases h : i = 2
    · subst h; exact up2_s
    · rw [up2_j h]; exact f2 i (by omega)
  generalize up2 I2 (e + 8) 2 (popc (vSw v k)) = I3 at g3 f3 ⊢
  rw [E_r12 he, bind_some', E_gI he, bind_some', g3 _ (by omega), h9, lit 3, E_s8 he (by omega), bind_some']
  have g4 := h8 (j := 3) (z := vDay v) g3
  have f4 : ∀ i, i < 4 → up2 I3 (e + 8) 3 (vDay v) (e + 8) i = facts v p k i := fun i hi => by
    by_cases h : i = 3
    · subst h; exact up2_s
    · rw [up2_j h]; exact f3 i (by omega)
  generalize up2 I3 (e + 8) 3 (vDay v) = I4 at g4 f4 ⊢
  rw [E_r12 he, bind_some', E_r3 he, bind_some', E_a3 he (by omega), b2_some, g4 _ (by omega), k3, lit 4, E_s8 he (by omega), bind_some']
  have g5 := h8 (j := 4) (z := vPride v p) g4
  have f5 : ∀ i, i < 5 → up2 I4 (e + 8) 4 (vPride v p) (e + 8) i = facts v p k i := fun i hi => by
    by_cases h : i = 4
    · subst h; exact up2_s
    · rw [up2_j h]; exact f4 i (by omega)
  generalize up2 I4 (e + 8) 4 (vPride v p) = I5 at g5 f5 ⊢
  rw [E_r12 he, bind_some', E_r2 he, bind_some', E_a2 he (by omega), b2_some, g5 _ (by omega), k2, lit 5, E_s8 he (by omega), bind_some']
  have g6 := h8 (j := 5) (z := vMore v p) g5
  have f6 : ∀ i, i < 6 → up2 I5 (e + 8) 5 (vMore v p) (e + 8) i = facts v p k i := fun i hi => by
    by_cases h : i = 5
    · subst h; exact up2_s
    · rw [up2_j h]; exact f5 i (by omega)
  generalize up2 I5 (e + 8) 5 (vMore v p) = I6 at g6 f6 ⊢
  rw [eq_iff_nI (by omega) (by decide)]
  unfold sSays
  by_cases hz : part = 0
  · rw [if_pos hz, if_pos hz]
    exact hx I6 g6 f6 20 (by decide)
  · rw [if_neg hz, if_neg hz]
    exact hx I6 g6 f6 99 (by decide)
theorem x_F1strokes {S : Hp} {v : Ev} {p k : Nat} : F_X1_strokes S (vKind v p) (sSays v 0 p k) (vMore v p) (vWt v k) (popc (vDo v k)) = some (sStrokes v p k, S) := by
  unfold F_X1_strokes B_X1_strokes_74 B_X1_strokes_63 sStrokes
  have e2 : (popc (vDo v k) < 2) = (popc (vDo v k) ≤ 1) := by
    rw [lt_I, le_I]
    have e2 : (2 : Int32).toInt = 2 := rfl
    have e1 : (1 : Int32).toInt = 1 := rfl
    rw [e2, e1]
    exact propext (by omega)
  by_cases h1 : vKind v p = 1
  · simp [h1]
  by_cases h2 : vKind v p = 2
  · simp [h2]
  by_cases h3 : vKind v p = 3
  · simp [h3]
  by_cases h4 : vKind v p = 4
  · rw [h4]
    by_cases hc : popc (vDo v k) ≤ 1 <;> simp [e2, hc]
  by_cases h5 : vKind v p = 5
  · rw [h5]
    by_cases hc : vWt v k ≤ vMore v p <;> simp [hc]
  simp [h1, h2, h3, h4, h5]
theorem E8_lt {e a : Nat} (he : isE e) (i : Nat) (h : i < 8) (ha : a = e + i) : ¬ E8 e a := fun q => by
  have := E_lt he
  rcases q with ⟨q1, q2⟩ | q
  · rcases he with rfl | rfl | rfl <;> omega
  · omega
theorem x_strokes {q : Xp} {I : Nat → Nat → Int32} {v : Ev} {e fu p k : Nat} (he : isE e) (hR : RX q I e v) (hok : okEv v) (hp : p < vP v) (hk : k < vW v) (hfu : 200 < fu) :
    ∃ I', smx (E8 e) I I' ∧ F_X0_strokes fu (mkX q I) e (nI p) (nI k) = some (sStrokes v p k, mkX q I') := by
  obtain ⟨I1, s1, e1⟩ := x_says (part := 0) he hR hok (by decide) hp hk hfu
  obtain ⟨⟨h0, hP6⟩, ⟨h5, hW10⟩, h9, hp', hk', hL⟩ := hR
  obtain ⟨k1, k2, k3, k4⟩ := hp' p hp
  obtain ⟨d1, d2, d3⟩ := hk' k hk
  obtain ⟨⟨d, hd, ed⟩, -⟩ := hok.2 k hk
  refine ⟨I1, s1, ?_⟩
  unfold F_X0_strokes
  rw [E_r6 he, bind_some', E_a5 he (by omega), b2_some, d1, ed, x_bitCount (by omega), b2_some, ← ed, E_ob he, bind_some', lit 0, e1, b2_some, E_r1 he, bind_some', E_a1 he (by omega), b2_some, E_r2 he, bind_some', E_a2 he (by omega), b2_some, E_r7 he, bind_some', E_a6 he (by omega), b2_some, s1 _ (E8_lt he 1 (by decide) rfl), s1 _ (E8_lt he 2 (by decide) rfl), s1 _ (E8_lt he 6 (by decide) rfl), k1, k2, d2, x_F1strokes, b2_some]
theorem x_beats {q : Xp} {I : Nat → Nat → Int32} {v : Ev} {e fu p : Nat} (he : isE e) (hR : RX q I e v) (hok : okEv v) (hp : p < vP v) (hfu : 200 < fu) :
    ∃ I', smx (E8 e) I I' ∧ F_X0_beats fu (mkX q I) e (nI p) = some (sBeats v p, mkX q I') := by
  obtain ⟨hW, hW10⟩ := hR.2.1
  refine loop1z (mkX q) (B_X0_beats_4 fu e (nI p)) (fun k => L_X0_beats_4 k fu e (nI p)) (fun n => rfl) (vW v) (fun k a => a + (if dd v p k then sStrokes v p k else 0)) 0 (fun _ I' => smx (E8 e) I I') (fun a I' => some (a, mkX q I')) ?_ ?_ I smx_rf fu (by omega)
  · intro k I' hi
    unfold L_X0_beats_4
    rw [E_gI he, bind_some', hi e (E8_lt he 0 (by decide) rfl), hW, if_pos (nI_le (Nat.le_refl _) (by omega))]
  · intro k I' j hj hi
    have hR' := RX_8 hR hi he
    unfold L_X0_beats_4 B_X0_beats_38
    rw [E_gI he, bind_some', hi e (E8_lt he 0 (by decide) rfl), hW, if_neg (nI_ge hj (by omega)), E_r6 he, bind_some', E_a5 he (by omega), b2_some, x_hasBit, b2_some, bI_ne, (hR'.2.2.2.2.1 j hj).1]
    by_cases hb : bt (vDo v j) (nI p) = true
    · obtain ⟨I1, hs1, e1⟩ := x_strokes (fu := fu) he hR' hok hp hj hfu
      refine ⟨I1, smx_tr hi hs1, ?_⟩
      rw [if_pos hb, E_ob he, bind_some', e1, b2_some, nI_1, show dd v p j = true from hb]
      rfl
    · refine ⟨I', hi, ?_⟩
      have hb : bt (vDo v j) (nI p) = false := by simpa using hb
      rw [hb, if_neg (by decide), nI_1, show dd v p j = false from hb]
      rfl
