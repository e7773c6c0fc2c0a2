/-! THE CLASS'S READ -/
def rd3 (fu n0 : Nat) (S : Hp) : Option (Option Nat × Hp) := (ob S 2 (some 39)).bind fun _ => b2 (F_X3_isNext S 39 0) fun v45 S45 => if v45 = 0 then (ob S45 2 (some 39)).bind fun _ => (F_X3_fail S45 39).bind fun S52 => B_X3_read_55 fu n0 39 S52 else B_X3_read_55 fu n0 39 S45
def rd2 (fu n0 : Nat) (S : Hp) : Option (Option Nat × Hp) := (ob S 2 (some 39)).bind fun _ => (F_X3_clause fu S 39 2 12).bind fun S40 => rd3 fu n0 S40
def rd1 (fu n0 : Nat) (S : Hp) : Option (Option Nat × Hp) := (ob S 2 (some 39)).bind fun _ => (F_X3_clause fu S 39 1 11).bind fun S33 => rd2 fu n0 S33
theorem b55_no {q : Xp} {I : Nat → Nat → Int32} {fu n0 : Nat} (h : I 39 1 ≠ -1) : B_X3_read_55 fu n0 39 (mkX q I) = some (none, mkX q I) := by
  unfold B_X3_read_55 B_X3_read_86
  rw [R_gI, bind_some', if_neg h]
theorem rd3_F {q : Xp} {I : Nat → Nat → Int32} {fu n0 : Nat} (h : I 39 1 ≠ -1) : rd3 fu n0 (mkX q I) = some (none, mkX q I) := by
  unfold rd3
  rw [R_ob, bind_some', x_isNextF h, b2_some, if_pos rfl, R_ob, bind_some', x_failF h, bind_some', b55_no h]
theorem rd2_F {q : Xp} {I : Nat → Nat → Int32} {fu n0 : Nat} {T : Tk} {N : Nat} {sn : Nat → Nat} (hT : TOK T N) (hsn : ∀ t, sn t ≤ 160) (hfu : 2000 < fu) (h : I 39 1 ≠ -1) : ∃ I', smx CR2 I I' ∧ I' 39 1 = I 39 1 ∧ rd2 fu n0 (mkX q I) = some (none, mkX q I') := by
  obtain ⟨I1, s1, e1, f1⟩ := x_clauseF (q := q) (I := I) (x1 := 2) (x2 := 12) hT hsn hfu h
  refine ⟨I1, s1, e1, ?_⟩
  unfold rd2
  rw [R_ob, bind_some', f1, bind_some', rd3_F (by rw [e1]; exact h)]
theorem rd1_F {q : Xp} {I : Nat → Nat → Int32} {fu n0 : Nat} {T : Tk} {N : Nat} {sn : Nat → Nat} (hT : TOK T N) (hsn : ∀ t, sn t ≤ 160) (hfu : 2000 < fu) (h : I 39 1 ≠ -1) : ∃ I', smx CR2 I I' ∧ I' 39 1 = I 39 1 ∧ rd1 fu n0 (mkX q I) = some (none, mkX q I') := by
  obtain ⟨I1, s1, e1, f1⟩ := x_clauseF (q := q) (I := I) (x1 := 1) (x2 := 11) hT hsn hfu h
  obtain ⟨I2, s2, e2, f2⟩ := rd2_F (q := q) (I := I1) (n0 := n0) hT hsn hfu (by rw [e1]; exact h)
  refine ⟨I2, smx_tr s1 s2, e2.trans e1, ?_⟩
  unfold rd1
  rw [R_ob, bind_some', f1, bind_some', f2]
def CW (a : Nat) : Prop := 36 ≤ a ∧ a ≤ 41
theorem CW_2 {I I' : Nat → Nat → Int32} (h : smx CR2 I I') : smx CW I I' := smx_wk h (fun a ha => by
  unfold CR2 at ha
  unfold CW
  omega)
theorem b55_ok {q : Xp} {I : Nat → Nat → Int32} {fu len : Nat} (h : I 39 1 = -1) (h4 : I 39 4 = nI len) (hl : len ≤ 160) (hfu : 200 < fu) : ∃ I', (∀ a, a < 53 + 4 * q.1 → I' a = I a) ∧ (∀ i, i < 3 → I' (54 + 4 * q.1) i = I 41 i) ∧ (∀ i, i < len → I' (55 + 4 * q.1) i = I 40 i) ∧ B_X3_read_55 fu (mkX q I).1 39 (mkX q I) = some (some (53 + 4 * q.1), mkN q len I') := by
  obtain ⟨I', h1, h2, h3, f⟩ := x_made (q := q) (I := I) hl hfu
  refine ⟨I', h1, h2, h3, ?_⟩
  have e1 : (mkX q I).1 = 53 + 4 * q.1 := rfl
  have oA : ob (hA q I) 2 (some 39) = some 39 := ob_mk (show 39 < 53 + 4 * q.1 by omega) (show (shX q 39).1 = 2 from rfl)
  have gA : ∀ j, gR (hA q I) (some 39) 2 j = some (rvX q 39 j) := fun j => by
    unfold gR
    rw [oA, bind_some']
    show some (if 39 = 53 + 4 * q.1 then none else rvX q 39 j) = _
    rw [if_neg (by omega)]
  have g3 : gR (hA q I) (some 39) 2 3 = some (some 40) := gA 3
  have g5 : gR (hA q I) (some 39) 2 5 = some (some 41) := gA 5
  have g4 : gI (hA q I) (some 39) 2 4 = some (nI len) := by
    unfold gI
    rw [oA, bind_some']
    show some (if 39 = 53 + 4 * q.1 then 0 else I 39 4) = _
    rw [if_neg (by omega), h4]
  have oN : ob (hA q I) 1 (some (53 + 4 * q.1)) = some (53 + 4 * q.1) := ob_lt (by rw [hA_1]; omega) (by rw [hA_o])
  have c1 : chn (53 + 4 * q.1) (mkX q I) [some 39] = some () := chn_ok (Nat.le_refl _) (fun r hr => by
    simp only [List.mem_cons, List.not_mem_nil, or_false] at hr
    rcases hr with rfl
    exact okR_a (show 39 < 53 + 4 * q.1 by omega))
  have c2 : chn (53 + 4 * q.1) (hA q I) [some 39, some (53 + 4 * q.1)] = some () := chn_ok (by rw [hA_1]; omega) (fun r hr => by
    simp only [List.mem_cons, List.not_mem_nil, or_false] at hr
    rcases hr with rfl | rfl
    · exact okR_a (by rw [hA_1]; omega)
    · exact okR_a (by rw [hA_1]; omega))
  unfold B_X3_read_55 B_X3_read_86
  rw [R_gI, bind_some', if_pos h, e1, show mk (mkX q I) 1 0 = hA q I from rfl, c1, bind_some', g3, bind_some', g4, bind_some', g5, bind_some', oN, bind_some', c2, bind_some', f, bind_some']
theorem x_rdT {q : Xp} {I : Nat → Nat → Int32} {b : Nat → Nat} {n fu : Nat} (hB : BY I b n) (hfu : 2000 < fu) : (∀ e, pA (tkN b n) = .inl e → ∃ I', smx CW I I' ∧ I' 39 1 = nI (sN b n e) ∧ F_X3_read fu (mkX q I) 39 = some (none, mkX q I')) ∧ ∀ o1 o2 o3, pA (tkN b n) = .inr (o1, (o2, o3)) → o3.length ≤ 160 ∧ ∃ I', (∀ a, a < 53 + 4 * q.1 → ¬ CW a → I' a = I a) ∧ (I' (54 + 4 * q.1) 0 = nI o1.length ∧ I' (54 + 4 * q.1) 1 = nI o2.length ∧ I' (54 + 4 * q.1) 2 = nI o3.length) ∧ (∀ i, i < o3.length → I' (55 + 4 * q.1) i = tr (nI (o3.getD i 0))) ∧ F_X3_read fu (mkX q I) 39 = some (some (53 + 4 * q.1), mkN q o3.length I') := by
  have hn := hB.1
  obtain ⟨N, I1, ⟨hN, hNn, -⟩, s1, hK, fS⟩ := c_split (q := q) (fu := fu) hB (by omega)
  have hT : TOK (tkN b n) N := tkN_T (by omega) hNn
  have hsn : ∀ t, sN b n t ≤ 160 := fun t => by have := (sN_sp (b := b) (n := n) (t := t)).2.1; omega
  have w1 : smx CW I I1 := smx_wk s1 (fun a ha => by unfold CT at ha; unfold CW; omega)
  have s2 : smx CR I1 (up2 (up2 (up2 I1 39 1 (-1)) 39 2 0) 39 4 0) := smx_tr (smx_up (Or.inl rfl)) (smx_tr (smx_up (Or.inl rfl)) (smx_up (Or.inl rfl)))
  have hR : RD (up2 (up2 (up2 I1 39 1 (-1)) 39 2 0) 39 4 0) 0 [] := ⟨by rw [up2_j (by decide), up2_j (by decide), up2_s], by rw [up2_j (by decide), up2_s]; rfl, up2_s, fun i hi => by cases hi⟩
  have hK2 := TK_s hK s2
  have w2 := smx_tr w1 (CW_2 (CR_2 s2))
  have hF : F_X3_read fu (mkX q I) 39 = (F_X3_clause fu (mkX q (up2 (up2 (up2 I1 39 1 (-1)) 39 2 0) 39 4 0)) 39 (nI 0) 10).bind fun S26 => rd1 fu (mkX q I).1 S26 := by
    unfold F_X3_read
    rw [R_r0, bind_some', X_ob34, bind_some', fS, bind_some', R_pI, bind_some', R_pI, bind_some', R_pI, bind_some', R_ob, bind_some']
    rfl
  rw [hF]
  have h1 : ∀ I' : Nat → Nat → Int32, (mkX q I).1 = (mkX q I').1 := fun _ => rfl
  obtain ⟨I2, a1, a2, a3, a4⟩ := x_clause (q := q) (part := 0) (x2 := 10) hT hsn hfu (by decide) rfl hK2 hR (Nat.le_refl _) (Nat.zero_le _)
  rw [a2, bind_some']
  have w3 := smx_tr w2 (CW_2 a1)
  unfold pA
  cases hc1 : pC (tkN b n) 0 0 [] with
  | inr e =>
    obtain ⟨-, b2⟩ := a3 e hc1
    obtain ⟨I3, c1, c2, c3⟩ := rd1_F (q := q) (I := I2) (fu := fu) (n0 := (mkX q I).1) hT hsn hfu (fault_ne hsn b2)
    refine ⟨fun e' h => ?_, fun o1 o2 o3 h => by cases h⟩
    cases h
    exact ⟨I3, smx_tr w3 (CW_2 c1), c2.trans b2, c3⟩
  | inl q1 =>
    obtain ⟨t1, o1⟩ := q1
    obtain ⟨b1, b2, b3, b4, b5⟩ := a4 t1 o1 hc1
    have hK3 := TK_2 hK2 a1
    obtain ⟨I3, c1, c2, c3, c4⟩ := x_clause (q := q) (part := 1) (x2 := 11) hT hsn hfu (by decide) rfl hK3 b1 b3 b2
    have w4 := smx_tr w3 (CW_2 c1)
    have c2 : F_X3_clause fu (mkX q I2) 39 1 11 = some (mkX q I3) := c2
    dsimp only
    unfold rd1
    rw [R_ob, bind_some', c2, bind_some']
    cases hc2 : pC (tkN b n) 1 t1 o1 with
    | inr e =>
      obtain ⟨-, d2⟩ := c3 e hc2
      obtain ⟨I4, e1, e2, e3⟩ := rd2_F (q := q) (I := I3) (fu := fu) (n0 := (mkX q I).1) hT hsn hfu (fault_ne hsn d2)
      refine ⟨fun e' h => ?_, fun o1 o2 o3 h => by cases h⟩
      cases h
      exact ⟨I4, smx_tr w4 (CW_2 e1), e2.trans d2, e3⟩
    | inl q2 =>
      obtain ⟨t2, o2⟩ := q2
      obtain ⟨d1, d2, d3, d4, d5⟩ := c4 t2 o2 hc2
      have hK4 := TK_2 hK3 c1
      obtain ⟨I4, e1, e2, e3, e4⟩ := x_clause (q := q) (part := 2) (x2 := 12) hT hsn hfu (by decide) rfl hK4 d1 d3 d2
      have w5 := smx_tr w4 (CW_2 e1)
      have e2 : F_X3_clause fu (mkX q I3) 39 2 12 = some (mkX q I4) := e2
      dsimp only
      unfold rd2
      rw [R_ob, bind_some', e2, bind_some']
      cases hc3 : pC (tkN b n) 2 t2 o2 with
      | inr e =>
        obtain ⟨-, f2⟩ := e3 e hc3
        refine ⟨fun e' h => ?_, fun o1 o2 o3 h => by cases h⟩
        cases h
        exact ⟨I4, w5, f2, rd3_F (fault_ne hsn f2)⟩
      | inl q3 =>
        obtain ⟨t3, o3⟩ := q3
        obtain ⟨f1, f2, f3, f4, f5⟩ := e4 t3 o3 hc3
        have hK5 := TK_2 hK4 e1
        dsimp only
        unfold rd3
        rw [R_ob, bind_some', x_isNext (x := 0) (s := 0) rfl (by decide) hT hK5 f1 f2, b2_some]
        by_cases k : (tkN b n).1 t3 = 0
        · obtain ⟨I5, g1, g2, g3, g4⟩ := b55_ok (q := q) (I := I4) (fu := fu) f1.1 f1.2.2.1 (by omega) (by omega)
          rw [if_pos k, decide_eq_true k, if_neg bIt, h1 I4, g4]
          refine ⟨fun e h => (by cases h), fun p1 p2 p3 h => ?_⟩
          cases h
          refine ⟨by omega, I5, fun a ha hc => (g1 a ha).trans (w5 a hc), ⟨?_, ?_, ?_⟩, fun i hi => (g3 i hi).trans (f1.2.2.2 i hi), rfl⟩
          · rw [g2 0 (by decide), f5 0 (by decide), d5 0 (by decide), b4]
          · rw [g2 1 (by decide), f5 1 (by decide), d4]
          · rw [g2 2 (by decide), f4]
        · have hx := x_fail hT hK5 f1 f2
          rw [if_neg k, decide_eq_false k, if_pos bIf, R_ob, bind_some', hx, bind_some']
          refine ⟨fun e h => ?_, fun p1 p2 p3 h => by cases h⟩
          cases h
          refine ⟨_, smx_tr w5 (smx_up (show CW 39 from ⟨by decide, by decide⟩)), up2_s, b55_no ?_⟩
          rw [up2_s]
          exact fault_ne (f := t3) hsn rfl
