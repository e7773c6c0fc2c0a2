/-! THE CLASS'S READER, put together -/
theorem x_one {q : Xp} {fu : Nat} {T : Tk} {N : Nat} {sn : Nat → Nat} {rc : Hp → Nat → Int32 → Option Hp} {prc : Nat → Nat → List Nat → Res} {o : Nat} (hT : TOK T N) (hsn : ∀ t, sn t ≤ 160) (hfu : 2000 < fu) (ho : o ≤ 5) (hrc : ∀ o', o ≤ o' → o' < 5 → XG q fu T N sn (fun S => rc S 39 (nI (o' + 1))) (prc (o' + 1))) : XG q fu T N sn (fun S => F_X3_one rc fu S 39 (nI o)) (pOne T prc o) :=
  x_pre (x := 45) (w := -3) (s := 45) (c := 19) (Fs := fun S y => F_X3_plainOne rc fu S 39 y) (B := fun v => B_X3_one_17 rc fu 39 v) hT hsn ho rfl (by decide) (by decide) hfu (by decide) (fun S => rfl) (fun n k S y => rfl) (fun o' h1 h2 => x_plain hT hsn h2 (fun h5 => hrc o' h1 h5))
theorem x_term {q : Xp} {fu : Nat} {T : Tk} {N : Nat} {sn : Nat → Nat} {rc : Hp → Nat → Int32 → Option Hp} {prc : Nat → Nat → List Nat → Res} {o : Nat} (hT : TOK T N) (hsn : ∀ t, sn t ≤ 160) (hfu : 2000 < fu) (hs : XG q fu T N sn (fun S => F_X3_one rc fu S 39 (nI o)) (pOne T prc o)) : XG q fu T N sn (fun S => F_X3_term rc fu S 39 (nI o)) (pTerm T prc o) :=
  x_bin (Fs := fun S => F_X3_one rc fu S 39 (nI o)) (B := B_X3_term_7 rc fu 39 (nI o)) (ops := op6) hT hsn hfu (fun k h => ((ops_6 k).mp h).1) (fun S => rfl) (fun k S => by
    show L_X3_term_7 _ _ _ _ _ _ _ = _
    unfold L_X3_term_7 B_X3_term_50
    rw [if_pos (show (160 : Int32) ≤ nI 160 by decide)]) (fun k I i hi h => by
    show L_X3_term_7 _ _ _ _ _ _ _ = _
    unfold L_X3_term_7 B_X3_term_50
    rw [if_neg (show ¬ (160 : Int32) ≤ nI i by rw [lit 160]; exact nI_ge hi (by decide)), R_ob, bind_some', x_isNextF h, b2_some, if_pos rfl]) (fun k I t out i hi hK hR ht => by
    show L_X3_term_7 _ _ _ _ _ _ _ = _
    unfold L_X3_term_7 B_X3_term_50
    rw [if_neg (show ¬ (160 : Int32) ≤ nI i by rw [lit 160]; exact nI_ge hi (by decide)), R_ob, bind_some', x_isNext (x := 42) (s := 42) rfl (by decide) hT hK hR ht, b2_some]
    by_cases h : T.1 t = 42
    · have h2 : op6 (T.1 t) = true := decide_eq_true h
      rw [decide_eq_true h, if_neg bIt, if_pos h2, R_gI, bind_some', hR.2.1, nI_1, nI_1, R_pI, bind_some', h]
      rfl
    · have h2 : ¬ op6 (T.1 t) = true := fun e => h (of_decide_eq_true e)
      rw [decide_eq_false h, if_pos bIf, if_neg h2]) hs
theorem x_sum {q : Xp} {fu : Nat} {T : Tk} {N : Nat} {sn : Nat → Nat} {rc : Hp → Nat → Int32 → Option Hp} {prc : Nat → Nat → List Nat → Res} {o : Nat} (hT : TOK T N) (hsn : ∀ t, sn t ≤ 160) (hfu : 2000 < fu) (hs : XG q fu T N sn (fun S => F_X3_term rc fu S 39 (nI o)) (pTerm T prc o)) : XG q fu T N sn (fun S => F_X3_sum rc fu S 39 (nI o)) (pSum T prc o) :=
  x_bin (Fs := fun S => F_X3_term rc fu S 39 (nI o)) (B := B_X3_sum_7 rc fu 39 (nI o)) (ops := op5) hT hsn hfu (fun k h => ((ops_5 k).mp h).1) (fun S => rfl) (fun k S => by
    show L_X3_sum_7 _ _ _ _ _ _ _ = _
    unfold L_X3_sum_7 B_X3_sum_74
    rw [if_pos (show (160 : Int32) ≤ nI 160 by decide)]) (fun k I i hi h => by
    show L_X3_sum_7 _ _ _ _ _ _ _ = _
    unfold L_X3_sum_7 B_X3_sum_74
    rw [if_neg (show ¬ (160 : Int32) ≤ nI i by rw [lit 160]; exact nI_ge hi (by decide)), R_ob, bind_some', x_isNextF h, b2_some, if_pos rfl, R_ob, bind_some', x_isNextF h, b2_some, if_pos rfl]) (fun k I t out i hi hK hR ht => by
    have hN := hT.2.1
    have at36 : F_X7_at (mkX q I) (some 36) (nI t) = some (I 36 t, mkX q I) := X_at 161 (by decide) rfl (by omega) (by decide)
    show L_X3_sum_7 _ _ _ _ _ _ _ = _
    have b32 : B_X3_sum_32 rc (B_X3_sum_7 rc fu 39 (nI o) k) fu 39 (mkX q I) (nI o) (nI i) = (ob (mkX q (up2 I 39 2 (nI (t + 1)))) 2 (some 39)).bind fun _ => (F_X3_term rc fu (mkX q (up2 I 39 2 (nI (t + 1)))) 39 (nI o)).bind fun S2 => (ob S2 2 (some 39)).bind fun _ => (F_X3_write S2 39 (-nI (T.1 t))).bind fun S3 => B_X3_sum_7 rc fu 39 (nI o) k S3 (nI (i + 1)) := by
      unfold B_X3_sum_32
      rw [R_r0, bind_some', T_r2, bind_some', R_gI, bind_some', hR.2.1, at36, b2_some, (hK.1 t ht).1, R_gI, bind_some', hR.2.1, nI_1, nI_1, R_pI, bind_some']
    unfold L_X3_sum_7 B_X3_sum_74
    rw [if_neg (show ¬ (160 : Int32) ≤ nI i by rw [lit 160]; exact nI_ge hi (by decide)), R_ob, bind_some', x_isNext (x := 43) (s := 43) rfl (by decide) hT hK hR ht, b2_some, R_ob, bind_some', x_isNext (x := 45) (s := 45) rfl (by decide) hT hK hR ht, b2_some, b32]
    by_cases h : T.1 t = 43
    · have h2 : op5 (T.1 t) = true := decide_eq_true (Or.inl h)
      rw [decide_eq_true h, if_neg bIt, if_pos h2]
    · rw [decide_eq_false h, if_pos bIf]
      by_cases h' : T.1 t = 45
      · have h2 : op5 (T.1 t) = true := decide_eq_true (Or.inr h')
        rw [decide_eq_true h', if_neg bIt, if_pos h2]
      · have h2 : ¬ op5 (T.1 t) = true := fun e => (of_decide_eq_true e).elim h h'
        rw [decide_eq_false h', if_pos bIf, if_neg h2]) hs
theorem x_cmp {q : Xp} {fu : Nat} {T : Tk} {N : Nat} {sn : Nat → Nat} {rc : Hp → Nat → Int32 → Option Hp} {prc : Nat → Nat → List Nat → Res} {o : Nat} (hT : TOK T N) (hsn : ∀ t, sn t ≤ 160) (hs : XG q fu T N sn (fun S => F_X3_sum rc fu S 39 (nI o)) (pSum T prc o)) : XG q fu T N sn (fun S => F_X3_comparison rc fu S 39 (nI o)) (pCmp T prc o) := by
  have hN := hT.2.1
  constructor
  · intro I h
    have g : F_X3_sum rc fu (mkX q I) 39 (nI o) = some (mkX q I) := hs.1 I h
    show F_X3_comparison rc fu (mkX q I) 39 (nI o) = _
    unfold F_X3_comparison B_X3_comparison_59
    rw [R_ob, bind_some', g, bind_some', R_ob, bind_some', x_isNextF h, b2_some, if_pos rfl, R_ob, bind_some', x_isNextF h, b2_some, if_pos rfl]
  · intro I t out hK hR hl ht
    obtain ⟨I1, s1, f1, e1, e2⟩ := hs.2 I t out hK hR hl ht
    have f1 : F_X3_sum rc fu (mkX q I) 39 (nI o) = some (mkX q I1) := f1
    show ∃ I', _ ∧ F_X3_comparison rc fu (mkX q I) 39 (nI o) = _ ∧ _
    unfold F_X3_comparison B_X3_comparison_59 pCmp
    rw [R_ob, bind_some', f1, bind_some', R_ob, bind_some']
    cases hs' : pSum T prc o t out with
    | inr e =>
      obtain ⟨z1, z2⟩ := e1 e hs'
      have hn := fault_ne hsn z2
      rw [x_isNextF hn, b2_some, if_pos rfl, R_ob, bind_some', x_isNextF hn, b2_some, if_pos rfl]
      exact ⟨I1, s1, rfl, fun f h => (by cases h; exact ⟨z1, z2⟩), fun t2 out2 h => by cases h⟩
    | inl r =>
      obtain ⟨t3, out3⟩ := r
      obtain ⟨z1, z2, z3, z4⟩ := e2 t3 out3 hs'
      have hK1 := TK_s hK s1
      have at36 : F_X7_at (mkX q I1) (some 36) (nI t3) = some (I1 36 t3, mkX q I1) := X_at 161 (by decide) rfl (by omega) (by decide)
      rw [x_isNext (x := 60) (s := 60) rfl (by decide) hT hK1 z1 z3, b2_some, R_ob, bind_some', x_isNext (x := 61) (s := 61) rfl (by decide) hT hK1 z1 z3, b2_some]
      show ∃ I', _ ∧ _ ∧ (∀ f, (if T.1 t3 = 60 ∨ T.1 t3 = 61 then bR (pSum T prc o (t3 + 1) out3) fun t4 out4 => .inl (t4, out4 ++ [sg (T.1 t3)]) else .inl (t3, out3) : Res) = .inr f → _) ∧ ∀ t2 out2, (if T.1 t3 = 60 ∨ T.1 t3 = 61 then bR (pSum T prc o (t3 + 1) out3) fun t4 out4 => .inl (t4, out4 ++ [sg (T.1 t3)]) else .inl (t3, out3) : Res) = .inl (t2, out2) → _
      by_cases hk : T.1 t3 = 60 ∨ T.1 t3 = 61
      · have hne : t3 ≠ N := fun e => by rw [e, hT.1] at hk; omega
        have k1 : isOp (T.1 t3) = true := decide_eq_true (by omega)
        have ew : -nI (T.1 t3) = tr (nI (sg (T.1 t3))) := by rcases hk with e | e <;> rw [e] <;> rfl
        have s0 : smx CR I1 (up2 I1 39 2 (nI (t3 + 1))) := smx_up (Or.inl rfl)
        obtain ⟨I2, s2, f2, g1, g2⟩ := hs.2 _ (t3 + 1) out3 (TK_s hK1 s0) (RD_next z1) (by omega) (by omega)
        have f2 : F_X3_sum rc fu (mkX q (up2 I1 39 2 (nI (t3 + 1)))) 39 (nI o) = some (mkX q I2) := f2
        have b23 : B_X3_comparison_23 rc fu 39 (mkX q I1) (nI o) = (F_X3_write (mkX q I2) 39 (-nI (T.1 t3))).bind fun S56 => some S56 := by
          unfold B_X3_comparison_23 B_X3_comparison_59
          rw [R_r0, bind_some', T_r2, bind_some', R_gI, bind_some', z1.2.1, at36, b2_some, (hK1.1 t3 z3).1, R_gI, bind_some', z1.2.1, nI_1, R_pI, bind_some', R_ob, bind_some', f2, bind_some', R_ob, bind_some']
        have hgo : (if bI (decide (T.1 t3 = 60)) = 0 then (if bI (decide (T.1 t3 = 61)) = 0 then some (mkX q I1) else B_X3_comparison_23 rc fu 39 (mkX q I1) (nI o)) else B_X3_comparison_23 rc fu 39 (mkX q I1) (nI o)) = B_X3_comparison_23 rc fu 39 (mkX q I1) (nI o) := by
          by_cases h60 : T.1 t3 = 60
          · rw [decide_eq_true h60, if_neg bIt]
          · rw [decide_eq_false h60, if_pos bIf, decide_eq_true (hk.resolve_left h60), if_neg bIt]
        have s01 := smx_tr (smx_tr s1 s0) s2
        rw [hgo, b23, if_pos hk]
        cases hs2 : pSum T prc o (t3 + 1) out3 with
        | inr e =>
          obtain ⟨y1, y2⟩ := g1 e hs2
          obtain ⟨I3, s3, e3, f3⟩ := x_putc (q := q) (I := I2) (x := -nI (T.1 t3))
          rw [f3, bind_some']
          exact ⟨I3, smx_tr s01 s3, rfl, fun f h => (by cases h; exact ⟨y1, e3.trans y2⟩), fun t2 out2 h => by cases h⟩
        | inl r =>
          obtain ⟨t4, out4⟩ := r
          obtain ⟨y1, y2, y3, y4⟩ := g2 t4 out4 hs2
          obtain ⟨I3, s3, r3, f3⟩ := x_putcR (q := q) (c := sg (T.1 t3)) (x := -nI (T.1 t3)) y1 (by omega) ew
          rw [f3, bind_some']
          refine ⟨I3, smx_tr s01 s3, rfl, fun f h => (by cases h), fun t2 out2 h => ?_⟩
          cases h
          refine ⟨r3, by omega, y3, ?_⟩
          show (out4 ++ [sg (T.1 t3)]).length + t ≤ out.length + t4
          rw [List.length_append]
          show out4.length + 1 + t ≤ out.length + t4
          omega
      · have h60 : ¬ T.1 t3 = 60 := fun h => hk (Or.inl h)
        have h61 : ¬ T.1 t3 = 61 := fun h => hk (Or.inr h)
        rw [decide_eq_false h60, if_pos bIf, decide_eq_false h61, if_pos bIf, if_neg hk]
        refine ⟨I1, s1, rfl, fun f h => (by cases h), fun t2 out2 h => ?_⟩
        cases h
        exact ⟨z1, z2, z3, z4⟩
theorem x_notG {q : Xp} {fu : Nat} {T : Tk} {N : Nat} {sn : Nat → Nat} {rc : Hp → Nat → Int32 → Option Hp} {prc : Nat → Nat → List Nat → Res} {o : Nat} (hT : TOK T N) (hsn : ∀ t, sn t ≤ 160) (hfu : 2000 < fu) (ho : o ≤ 5) (hs : ∀ o', o ≤ o' → o' ≤ 5 → XG q fu T N sn (fun S => F_X3_comparison rc fu S 39 (nI o')) (pCmp T prc o')) : XG q fu T N sn (fun S => F_X3_not rc fu S 39 (nI o)) (pNot T prc o) :=
  x_pre (x := 15) (w := -15) (s := 15) (c := 13) (Fs := fun S y => F_X3_comparison rc fu S 39 y) (B := fun v => B_X3_not_17 rc fu 39 v) hT hsn ho rfl (by decide) (by decide) hfu (by decide) (fun S => rfl) (fun n k S y => rfl) hs
theorem x_and {q : Xp} {fu : Nat} {T : Tk} {N : Nat} {sn : Nat → Nat} {rc : Hp → Nat → Int32 → Option Hp} {prc : Nat → Nat → List Nat → Res} {o : Nat} (hT : TOK T N) (hsn : ∀ t, sn t ≤ 160) (hfu : 2000 < fu) (hs : XG q fu T N sn (fun S => F_X3_not rc fu S 39 (nI o)) (pNot T prc o)) : XG q fu T N sn (fun S => F_X3_and rc fu S 39 (nI o)) (pAnd T prc o) :=
  x_bin (Fs := fun S => F_X3_not rc fu S 39 (nI o)) (B := B_X3_and_7 rc fu 39 (nI o)) (ops := op2) hT hsn hfu (fun k h => ((ops_2 k).mp h).1) (fun S => rfl) (fun k S => by
    show L_X3_and_7 _ _ _ _ _ _ _ = _
    unfold L_X3_and_7 B_X3_and_50
    rw [if_pos (show (160 : Int32) ≤ nI 160 by decide)]) (fun k I i hi h => by
    show L_X3_and_7 _ _ _ _ _ _ _ = _
    unfold L_X3_and_7 B_X3_and_50
    rw [if_neg (show ¬ (160 : Int32) ≤ nI i by rw [lit 160]; exact nI_ge hi (by decide)), R_ob, bind_some', x_isNextF h, b2_some, if_pos rfl]) (fun k I t out i hi hK hR ht => by
    show L_X3_and_7 _ _ _ _ _ _ _ = _
    unfold L_X3_and_7 B_X3_and_50
    rw [if_neg (show ¬ (160 : Int32) ≤ nI i by rw [lit 160]; exact nI_ge hi (by decide)), R_ob, bind_some', x_isNext (x := 14) (s := 14) rfl (by decide) hT hK hR ht, b2_some]
    by_cases h : T.1 t = 14
    · have h2 : op2 (T.1 t) = true := decide_eq_true h
      rw [decide_eq_true h, if_neg bIt, if_pos h2, R_gI, bind_some', hR.2.1, nI_1, nI_1, R_pI, bind_some', h]
      rfl
    · have h2 : ¬ op2 (T.1 t) = true := fun e => h (of_decide_eq_true e)
      rw [decide_eq_false h, if_pos bIf, if_neg h2]) hs
theorem x_orB {q : Xp} {fu : Nat} {T : Tk} {N : Nat} {sn : Nat → Nat} {rc : Hp → Nat → Int32 → Option Hp} {prc : Nat → Nat → List Nat → Res} {o : Nat} (hT : TOK T N) (hsn : ∀ t, sn t ≤ 160) (hfu : 2000 < fu) (hs : XG q fu T N sn (fun S => F_X3_and rc fu S 39 (nI o)) (pAnd T prc o)) : XG q fu T N sn (fun S => F_X3_orB rc fu S 39 (nI o)) (pOrB T prc o) :=
  x_bin (Fs := fun S => F_X3_and rc fu S 39 (nI o)) (B := B_X3_or_7 rc fu 39 (nI o)) (ops := op1) hT hsn hfu (fun k h => ((ops_1 k).mp h).1) (fun S => rfl) (fun k S => by
    show L_X3_or_7 _ _ _ _ _ _ _ = _
    unfold L_X3_or_7 B_X3_or_50
    rw [if_pos (show (160 : Int32) ≤ nI 160 by decide)]) (fun k I i hi h => by
    show L_X3_or_7 _ _ _ _ _ _ _ = _
    unfold L_X3_or_7 B_X3_or_50
    rw [if_neg (show ¬ (160 : Int32) ≤ nI i by rw [lit 160]; exact nI_ge hi (by decide)), R_ob, bind_some', x_isNextF h, b2_some, if_pos rfl]) (fun k I t out i hi hK hR ht => by
    show L_X3_or_7 _ _ _ _ _ _ _ = _
    unfold L_X3_or_7 B_X3_or_50
    rw [if_neg (show ¬ (160 : Int32) ≤ nI i by rw [lit 160]; exact nI_ge hi (by decide)), R_ob, bind_some', x_isNext (x := 13) (s := 13) rfl (by decide) hT hK hR ht, b2_some]
    by_cases h : T.1 t = 13
    · have h2 : op1 (T.1 t) = true := decide_eq_true h
      rw [decide_eq_true h, if_neg bIt, if_pos h2, R_gI, bind_some', hR.2.1, nI_1, nI_1, R_pI, bind_some', h]
      rfl
    · have h2 : ¬ op1 (T.1 t) = true := fun e => h (of_decide_eq_true e)
      rw [decide_eq_false h, if_pos bIf, if_neg h2]) hs
theorem x_orG {q : Xp} {fu : Nat} {T : Tk} {N : Nat} {sn : Nat → Nat} (hT : TOK T N) (hsn : ∀ t, sn t ≤ 160) (hfu : 2000 < fu) : ∀ d o, o ≤ 5 → 6 ≤ d + o → XG q fu T N sn (fun S => F_X3_or fu d S 39 (nI o)) (pOr T d o)
  | 0, o, h1, h2 => by omega
  | d + 1, o, h1, h2 => by
    have h7 : ∀ o', o ≤ o' → o' ≤ 5 → XG q fu T N sn (fun S => F_X3_one (F_X3_or fu d) fu S 39 (nI o')) (pOne T (pOr T d) o') := fun o' h3 h4 => x_one hT hsn hfu h4 (fun o2 h5 h6 => x_orG hT hsn hfu d (o2 + 1) (by omega) (by omega))
    have h4 : ∀ o', o ≤ o' → o' ≤ 5 → XG q fu T N sn (fun S => F_X3_comparison (F_X3_or fu d) fu S 39 (nI o')) (pCmp T (pOr T d) o') := fun o' h3 h4 => x_cmp hT hsn (x_sum hT hsn hfu (x_term hT hsn hfu (h7 o' h3 h4)))
    exact x_orB hT hsn hfu (x_and hT hsn hfu (x_notG hT hsn hfu h1 h4))
/-! clauses -/
def pC (T : Tk) (part t : Nat) (out : List Nat) : Res := if T.1 t = 10 + part then pE T (t + 1) out else .inr t
def CR2 (a : Nat) : Prop := a = 39 ∨ a = 40 ∨ a = 41
theorem CR_2 {I I' : Nat → Nat → Int32} (h : smx CR I I') : smx CR2 I I' := smx_wk h (fun a ha => by
  unfold CR at ha
  unfold CR2
  omega)
theorem TK_2 {q : Xp} {fu : Nat} {I I' : Nat → Nat → Int32} {T : Tk} {N : Nat} {sn : Nat → Nat} (h : TK q fu I T N sn) (hs : smx CR2 I I') : TK q fu I' T N sn := by
  have f : ∀ a, 35 ≤ a → a ≤ 38 → I' a = I a := fun a h1 h2 => hs a (fun q => by unfold CR2 at q; omega)
  refine ⟨fun t ht => ?_, fun t ht hk I2 h2 => h.2 t ht hk I2 (fun a h3 h4 => (h2 a h3 h4).trans (f a h3 h4))⟩
  rw [f 36 (by omega) (by omega), f 37 (by omega) (by omega)]
  exact h.1 t ht
theorem x_clauseF {q : Xp} {fu : Nat} {T : Tk} {N : Nat} {sn : Nat → Nat} {I : Nat → Nat → Int32} {x1 x2 : Int32} (hT : TOK T N) (hsn : ∀ t, sn t ≤ 160) (hfu : 2000 < fu) (h : I 39 1 ≠ -1) : ∃ I', smx CR2 I I' ∧ I' 39 1 = I 39 1 ∧ F_X3_clause fu (mkX q I) 39 x1 x2 = some (mkX q I') := by
  have g : F_X3_or fu 7 (mkX q I) 39 0 = some (mkX q I) := (x_orG (q := q) (sn := sn) hT hsn hfu 7 0 (by decide) (by decide)).1 I h
  obtain ⟨I', h1, h2⟩ := st_any (q := q) (I := I) (a := 41) (len := 3) (i := x1) (x := I 39 4) (by decide) rfl (by decide)
  refine ⟨I', fun a ha => h1 a (fun e => ha (Or.inr (Or.inr e))), by rw [h1 39 (by decide)], ?_⟩
  unfold F_X3_clause
  rw [R_ob, bind_some', x_expectF h, bind_some', R_ob, bind_some', g, bind_some', R_ob, bind_some', x_expectF h, bind_some', R_r5, bind_some', R_gI, bind_some', h2, bind_some']
theorem x_clause {q : Xp} {fu : Nat} {T : Tk} {N : Nat} {sn : Nat → Nat} {I : Nat → Nat → Int32} {part t : Nat} {x2 : Int32} {out : List Nat} (hT : TOK T N) (hsn : ∀ t, sn t ≤ 160) (hfu : 2000 < fu) (hpart : part < 3) (hx : x2 = nI (10 + part)) (hK : TK q fu I T N sn) (hR : RD I t out) (hl : out.length ≤ t) (ht : t ≤ N) :
    ∃ I', smx CR2 I I' ∧ F_X3_clause fu (mkX q I) 39 (nI part) x2 = some (mkX q I') ∧ (∀ f, pC T part t out = .inr f → f ≤ N ∧ I' 39 1 = nI (sn f)) ∧ ∀ t2 out2, pC T part t out = .inl (t2, out2) → RD I' t2 out2 ∧ t2 ≤ N ∧ out2.length ≤ t2 ∧ I' 41 part = nI out2.length ∧ ∀ b, b ≠ part → I' 41 b = I 41 b := by
  have hN := hT.2.1
  obtain ⟨G1, G2⟩ := x_orG (q := q) (sn := sn) hT hsn hfu 7 0 (by decide) (by decide)
  have tail : ∀ (I1 : Nat → Nat → Int32), I1 39 1 ≠ -1 → smx CR I I1 → ∃ I', smx CR2 I I' ∧ I' 39 1 = I1 39 1 ∧ ((F_X3_expect (mkX q I1) 39 59).bind fun S13 => (gR S13 (some 39) 2 5).bind fun v17 => (gI S13 (some 39) 2 4).bind fun v22 => (F_X7_store S13 v17 (nI part) v22).bind fun S25 => some S25) = some (mkX q I') := by
    intro I1 h s1
    obtain ⟨I', h1, h2⟩ := st_any (q := q) (I := I1) (a := 41) (len := 3) (i := nI part) (x := I1 39 4) (by decide) rfl (by decide)
    refine ⟨I', smx_tr (CR_2 s1) (fun a ha => h1 a (fun e => ha (Or.inr (Or.inr e)))), by rw [h1 39 (by decide)], ?_⟩
    rw [x_expectF h, bind_some', R_r5, bind_some', R_gI, bind_some', h2, bind_some']
  unfold F_X3_clause pC
  rw [R_ob, bind_some', x_expect hx (by omega) hT hK hR ht, bind_some', R_ob, bind_some']
  by_cases hk : T.1 t = 10 + part
  · have hne : t ≠ N := fun e => by rw [e, hT.1] at hk; omega
    have s0 : smx CR I (up2 I 39 2 (nI (t + 1))) := smx_up (Or.inl rfl)
    obtain ⟨I1, s1, f1, e1, e2⟩ := G2 _ (t + 1) out (TK_s hK s0) (RD_next hR) (by omega) (by omega)
    have f1 : F_X3_or fu 7 (mkX q (up2 I 39 2 (nI (t + 1)))) 39 0 = some (mkX q I1) := f1
    have s01 := smx_tr s0 s1
    rw [if_pos hk, if_pos hk, f1, bind_some', R_ob, bind_some']
    unfold pE
    cases hs' : pOr T 7 0 (t + 1) out with
    | inr e =>
      obtain ⟨z1, z2⟩ := e1 e hs'
      obtain ⟨I', s', e', f'⟩ := tail I1 (fault_ne hsn z2) s01
      exact ⟨I', s', f', fun f h => (by cases h; exact ⟨z1, e'.trans z2⟩), fun t2 out2 h => by cases h⟩
    | inl r =>
      obtain ⟨t3, out3⟩ := r
      obtain ⟨z1, z2, z3, z4⟩ := e2 t3 out3 hs'
      rw [x_expect (x := 59) (s := 59) rfl (by decide) hT (TK_s hK s01) z1 z3, bind_some', R_r5, bind_some', R_gI, bind_some']
      show ∃ I', _ ∧ _ ∧ (∀ f, (if T.1 t3 = 59 then .inl (t3 + 1, out3) else .inr t3 : Res) = .inr f → _) ∧ ∀ t2 out2, (if T.1 t3 = 59 then .inl (t3 + 1, out3) else .inr t3 : Res) = .inl (t2, out2) → _
      by_cases k59 : T.1 t3 = 59
      · have hne3 : t3 ≠ N := fun e => by rw [e, hT.1] at k59; cases k59
        have R3 : RD (up2 I1 39 2 (nI (t3 + 1))) (t3 + 1) out3 := RD_next z1
        have st : F_X7_store (mkX q (up2 I1 39 2 (nI (t3 + 1)))) (some 41) (nI part) (nI out3.length) = some (mkX q (up2 (up2 I1 39 2 (nI (t3 + 1))) 41 part (nI out3.length))) := X_st 3 (by decide) rfl hpart (by decide)
        rw [if_pos k59, if_pos k59, R3.2.2.1, st, bind_some']
        refine ⟨_, smx_tr (CR_2 s01) (smx_tr (smx_up (Or.inl rfl)) (smx_up (Or.inr (Or.inr rfl)))), rfl, fun f h => (by cases h), fun t2 out2 h => ?_⟩
        cases h
        refine ⟨⟨by rw [up2_o (by decide)]; exact R3.1, by rw [up2_o (by decide)]; exact R3.2.1, by rw [up2_o (by decide)]; exact R3.2.2.1, fun i hi => by rw [up2_o (by decide)]; exact R3.2.2.2 i hi⟩, by omega, ?_, up2_s, fun b hb => ?_⟩
        · show out3.length ≤ t3 + 1
          omega
        · rw [up2_j hb, up2_o (by decide), s01 41 (fun e => by unfold CR at e; omega)]
      · obtain ⟨I', h1, h2⟩ := st_any (q := q) (I := up2 I1 39 1 (nI (sn t3))) (a := 41) (len := 3) (i := nI part) (x := up2 I1 39 1 (nI (sn t3)) 39 4) (by decide) rfl (by decide)
        rw [if_neg k59, if_neg k59, h2, bind_some']
        refine ⟨I', smx_tr (CR_2 s01) (smx_tr (smx_up (Or.inl rfl)) (fun a ha => h1 a (fun e => ha (Or.inr (Or.inr e))))), rfl, fun f h => ?_, fun t2 out2 h => by cases h⟩
        cases h
        exact ⟨z3, by rw [h1 39 (by decide), up2_s]⟩
  · have hn : up2 I 39 1 (nI (sn t)) 39 1 ≠ -1 := fault_ne hsn (f := t) up2_s
    have g : F_X3_or fu 7 (mkX q (up2 I 39 1 (nI (sn t)))) 39 0 = some (mkX q (up2 I 39 1 (nI (sn t)))) := G1 _ hn
    obtain ⟨I', s', e', f'⟩ := tail (up2 I 39 1 (nI (sn t))) hn (smx_up (Or.inl rfl))
    rw [if_neg hk, if_neg hk, g, bind_some', R_ob, bind_some']
    refine ⟨I', s', f', fun f h => ?_, fun t2 out2 h => by cases h⟩
    cases h
    exact ⟨ht, by rw [e', up2_s]⟩
