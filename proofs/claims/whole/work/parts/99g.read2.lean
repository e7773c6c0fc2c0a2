/-! THE CLASS'S READER, level by level -/
theorem x_openL {q : Xp} {fu : Nat} {T : Tk} {N : Nat} {sn : Nat → Nat} {x : Int32} {s o : Nat} (hx : x = nI s) (hs : s < 100) (hs0 : s ≠ 0) (hT : TOK T N) (out : List Nat) : ∀ (d t m n : Nat) (I : Nat → Nat → Int32), o + m + d = 5 → d < n → TK q fu I T N sn → RD I t out → t ≤ N →
    ∃ I', smx CR I I' ∧ RD I' (t + pO T s d t) out ∧ t + pO T s d t ≤ N ∧ B_X3_openAll_2 fu 39 x (nI o) n (mkX q I) (nI m) = some (nI (m + pO T s d t), mkX q I')
  | 0, t, m, n, I, hd, hn, hK, hR, ht => by
    obtain ⟨n, rfl⟩ : ∃ q, n = q + 1 := ⟨n - 1, by omega⟩
    refine ⟨I, smx_rf, hR, ht, ?_⟩
    show L_X3_openAll_2 _ _ _ _ _ _ _ = _
    unfold L_X3_openAll_2 B_X3_openAll_33
    rw [nI_add, if_pos (by rw [lit 5]; exact nI_le (by omega) (by omega))]
    rfl
  | d + 1, t, m, n, I, hd, hn, hK, hR, ht => by
    obtain ⟨n, rfl⟩ : ∃ q, n = q + 1 := ⟨n - 1, by omega⟩
    show ∃ I', smx CR I I' ∧ RD I' (t + (if T.1 t = s then pO T s d (t + 1) + 1 else 0)) out ∧ t + (if T.1 t = s then pO T s d (t + 1) + 1 else 0) ≤ N ∧ L_X3_openAll_2 _ _ _ _ _ _ _ = some (nI (m + (if T.1 t = s then pO T s d (t + 1) + 1 else 0)), mkX q I')
    unfold L_X3_openAll_2 B_X3_openAll_33
    rw [nI_add, if_neg (show ¬ (5 : Int32) ≤ nI (o + m) by rw [lit 5]; exact nI_ge (by omega) (by omega)), R_ob, bind_some', x_isNext hx hs hT hK hR ht, b2_some]
    by_cases h : T.1 t = s
    · have hne : t ≠ N := fun e => by rw [e, hT.1] at h; exact hs0 h.symm
      have s0 : smx CR I (up2 I 39 2 (nI (t + 1))) := smx_up (Or.inl rfl)
      obtain ⟨I', s1, r1, r2, f1⟩ := x_openL (o := o) hx hs hs0 hT out d (t + 1) (m + 1) n _ (by omega) (by omega) (TK_s hK s0) (RD_next hR) (by omega)
      rw [if_pos h, decide_eq_true h, if_neg bIt, R_gI, bind_some', hR.2.1, nI_1, R_pI, bind_some', nI_1]
      rw [show t + 1 + pO T s d (t + 1) = t + (pO T s d (t + 1) + 1) by omega] at r1 r2
      exact ⟨I', smx_tr s0 s1, r1, r2, by rw [f1, show m + 1 + pO T s d (t + 1) = m + (pO T s d (t + 1) + 1) by omega]⟩
    · rw [if_neg h, decide_eq_false h, if_pos bIf]
      exact ⟨I, smx_rf, hR, ht, rfl⟩
theorem x_openF {q : Xp} {fu : Nat} {I : Nat → Nat → Int32} {x y : Int32} (h : I 39 1 ≠ -1) (hfu : 0 < fu) : F_X3_openAll fu (mkX q I) 39 x y = some (0, mkX q I) := by
  obtain ⟨n, rfl⟩ : ∃ q, fu = q + 1 := ⟨fu - 1, by omega⟩
  unfold F_X3_openAll
  show L_X3_openAll_2 _ _ _ _ _ _ _ = _
  unfold L_X3_openAll_2 B_X3_openAll_33
  by_cases h5 : (5 : Int32) ≤ y + 0
  · rw [if_pos h5]
  · rw [if_neg h5, R_ob, bind_some', x_isNextF h, b2_some, if_pos rfl]
/-- a sign written so many times -/
theorem x_wrL {q : Xp} {w : Int32} {c n : Nat} {B : Nat → Hp → Int32 → Option Hp} (hB : ∀ k S x, B (k + 1) S x = if nI n ≤ x then some S else (ob S 2 (some 39)).bind fun _ => (F_X3_write S 39 w).bind fun S25 => B k S25 (x + 1)) (hw : w = tr (nI c)) (hn : n < 2 ^ 30) :
    (∀ (d i k : Nat) (I : Nat → Nat → Int32), i + d = n → d < k → ∃ I', smx CR I I' ∧ I' 39 1 = I 39 1 ∧ B k (mkX q I) (nI i) = some (mkX q I')) ∧
    ∀ (d i k t : Nat) (out : List Nat) (I : Nat → Nat → Int32), i + d = n → d < k → RD I t out → out.length + d ≤ 160 → ∃ I', smx CR I I' ∧ RD I' t (out ++ List.replicate d c) ∧ B k (mkX q I) (nI i) = some (mkX q I') := by
  constructor
  · intro d
    induction d with
    | zero =>
      intro i k I hi hk
      obtain ⟨k, rfl⟩ : ∃ q, k = q + 1 := ⟨k - 1, by omega⟩
      exact ⟨I, smx_rf, rfl, by rw [hB, if_pos (nI_le (by omega) (by omega))]⟩
    | succ d ih =>
      intro i k I hi hk
      obtain ⟨k, rfl⟩ : ∃ q, k = q + 1 := ⟨k - 1, by omega⟩
      obtain ⟨I1, s1, e1, f1⟩ := x_putc (q := q) (I := I) (x := w)
      obtain ⟨I2, s2, e2, f2⟩ := ih (i + 1) k I1 (by omega) (by omega)
      exact ⟨I2, smx_tr s1 s2, e2.trans e1, by rw [hB, if_neg (nI_ge (by omega) (by omega)), R_ob, bind_some', f1, bind_some', nI_1]; exact f2⟩
  · intro d
    induction d with
    | zero =>
      intro i k t out I hi hk hR hl
      obtain ⟨k, rfl⟩ : ∃ q, k = q + 1 := ⟨k - 1, by omega⟩
      exact ⟨I, smx_rf, by rw [List.replicate_zero, List.append_nil]; exact hR, by rw [hB, if_pos (nI_le (by omega) (by omega))]⟩
    | succ d ih =>
      intro i k t out I hi hk hR hl
      obtain ⟨k, rfl⟩ : ∃ q, k = q + 1 := ⟨k - 1, by omega⟩
      obtain ⟨I1, s1, r1, f1⟩ := x_putcR (q := q) (c := c) (x := w) hR (by omega) hw
      obtain ⟨I2, s2, r2, f2⟩ := ih (i + 1) k t (out ++ [c]) I1 (by omega) (by omega) r1 (by rw [List.length_append]; show out.length + 1 + d ≤ 160; omega)
      refine ⟨I2, smx_tr s1 s2, ?_, by rw [hB, if_neg (nI_ge (by omega) (by omega)), R_ob, bind_some', f1, bind_some', nI_1]; exact f2⟩
      rw [List.replicate_succ]
      rw [List.append_assoc] at r2
      exact r2
/-- signs ahead, an operand, then the signs written -/
theorem x_pre {q : Xp} {fu : Nat} {T : Tk} {N : Nat} {sn : Nat → Nat} {x w : Int32} {s c o : Nat} {F : Hp → Option Hp} {Fs : Hp → Int32 → Option Hp} {B : Int32 → Nat → Hp → Int32 → Option Hp} {sub : Nat → Nat → List Nat → Res} (hT : TOK T N) (hsn : ∀ t, sn t ≤ 160) (ho : o ≤ 5) (hx : x = nI s) (hs : s < 100) (hs0 : s ≠ 0) (hfu : 2000 < fu) (hw : w = tr (nI c))
    (hF : ∀ S, F S = (ob S 2 (some 39)).bind fun _ => b2 (F_X3_openAll fu S 39 x (nI o)) fun v4 S4 => (ob S4 2 (some 39)).bind fun _ => (Fs S4 (nI o + v4)).bind fun S12 => B v4 fu S12 0)
    (hB : ∀ n k S y, B (nI n) (k + 1) S y = if nI n ≤ y then some S else (ob S 2 (some 39)).bind fun _ => (F_X3_write S 39 w).bind fun S25 => B (nI n) k S25 (y + 1))
    (hsub : ∀ o', o ≤ o' → o' ≤ 5 → XG q fu T N sn (fun S => Fs S (nI o')) (sub o')) : XG q fu T N sn F (fun t out => pPre T s c sub o t out) := by
  have hN := hT.2.1
  constructor
  · intro I h
    have g := (hsub o (Nat.le_refl _) ho).1 I h
    have g : Fs (mkX q I) (nI o) = some (mkX q I) := g
    obtain ⟨n, hn⟩ : ∃ n, fu = n + 1 := ⟨fu - 1, by omega⟩
    have b0 : B 0 fu (mkX q I) 0 = some (mkX q I) := by
      have := hB 0 n (mkX q I) 0
      rw [← hn] at this
      exact this
    show F (mkX q I) = _
    rw [hF, R_ob, bind_some', x_openF h (by omega), b2_some, R_ob, bind_some', Int32.add_zero, g, bind_some', b0]
  · intro I t out hK hR hl ht
    obtain ⟨I1, s1, r1, r2, f1⟩ := x_openL (o := o) hx hs hs0 hT out (5 - o) t 0 fu I (by omega) (by omega) hK hR ht
    have hle := pO_le (T := T) (s := s) (5 - o) t
    rw [Nat.zero_add] at f1
    have f1 : F_X3_openAll fu (mkX q I) 39 x (nI o) = some (nI (pO T s (5 - o) t), mkX q I1) := f1
    show ∃ I', _ ∧ F (mkX q I) = _ ∧ (∀ f, bR (sub (o + pO T s (5 - o) t) (t + pO T s (5 - o) t) out) _ = .inr f → _) ∧ ∀ t2 out2, bR (sub (o + pO T s (5 - o) t) (t + pO T s (5 - o) t) out) _ = .inl (t2, out2) → _
    rw [hF, R_ob, bind_some', f1, b2_some, R_ob, bind_some', nI_add]
    generalize pO T s (5 - o) t = n at *
    obtain ⟨I2, s2, f2, e1, e2⟩ := (hsub (o + n) (by omega) (by omega)).2 I1 (t + n) out (TK_s hK s1) r1 (by omega) r2
    have f2 : Fs (mkX q I1) (nI (o + n)) = some (mkX q I2) := f2
    obtain ⟨w1, w2⟩ := x_wrL (q := q) (w := w) (c := c) (n := n) (B := B (nI n)) (hB n) hw (by omega)
    rw [f2, bind_some']
    cases hs' : sub (o + n) (t + n) out with
    | inr e =>
      obtain ⟨z1, z2⟩ := e1 e hs'
      obtain ⟨I3, s3, e3, f3⟩ := w1 n 0 fu I2 (by omega) (by omega)
      exact ⟨I3, smx_tr (smx_tr s1 s2) s3, f3, fun f h => (by cases h; exact ⟨z1, e3.trans z2⟩), fun t2 out2 h => by cases h⟩
    | inl r =>
      obtain ⟨t3, out3⟩ := r
      obtain ⟨z1, z2, z3, z4⟩ := e2 t3 out3 hs'
      obtain ⟨I3, s3, r3, f3⟩ := w2 n 0 fu t3 out3 I2 (by omega) (by omega) z1 (by omega)
      refine ⟨I3, smx_tr (smx_tr s1 s2) s3, f3, fun f h => (by cases h), fun t2 out2 h => ?_⟩
      cases h
      refine ⟨r3, by omega, z3, ?_⟩
      show (out3 ++ List.replicate n c).length + t ≤ out.length + t3
      rw [List.length_append, List.length_replicate]
      omega
/-- an operand, then a sign and an operand, as often as can be -/
theorem x_bin {q : Xp} {fu : Nat} {T : Tk} {N : Nat} {sn : Nat → Nat} {F Fs : Hp → Option Hp} {B : Nat → Hp → Int32 → Option Hp} {sub : Nat → List Nat → Res} {ops : Nat → Bool} (hT : TOK T N) (hsn : ∀ t, sn t ≤ 160) (hfu : 2000 < fu) (hops : ∀ k, ops k = true → isOp k = true)
    (hF : ∀ S, F S = (ob S 2 (some 39)).bind fun _ => (Fs S).bind fun S2 => B fu S2 0)
    (hBx : ∀ k S, B (k + 1) S (nI 160) = some S)
    (hBf : ∀ k I i, i < 160 → I 39 1 ≠ -1 → B (k + 1) (mkX q I) (nI i) = some (mkX q I))
    (hBs : ∀ k I t out i, i < 160 → TK q fu I T N sn → RD I t out → t ≤ N → B (k + 1) (mkX q I) (nI i) = if ops (T.1 t) = true then (ob (mkX q (up2 I 39 2 (nI (t + 1)))) 2 (some 39)).bind fun _ => (Fs (mkX q (up2 I 39 2 (nI (t + 1))))).bind fun S2 => (ob S2 2 (some 39)).bind fun _ => (F_X3_write S2 39 (-nI (T.1 t))).bind fun S3 => B k S3 (nI (i + 1)) else some (mkX q I))
    (hs : XG q fu T N sn Fs sub) : XG q fu T N sn F (fun t out => pBin T sub ops t out) := by
  have hN := hT.2.1
  have loopF : ∀ (k i : Nat) (I : Nat → Nat → Int32), i ≤ 160 → I 39 1 ≠ -1 → B (k + 1) (mkX q I) (nI i) = some (mkX q I) := fun k i I hi h => by
    by_cases h1 : i = 160
    · rw [h1]; exact hBx k _
    · exact hBf k I i (by omega) h
  have loop : ∀ (f i k t : Nat) (out : List Nat) (I : Nat → Nat → Int32), i + f = 160 → f < k → TK q fu I T N sn → RD I t out → out.length < t → t ≤ N → ∃ I', smx CR I I' ∧ B k (mkX q I) (nI i) = some (mkX q I') ∧ (∀ e, pL T sub ops f t out = .inr e → e ≤ N ∧ I' 39 1 = nI (sn e)) ∧ ∀ t2 out2, pL T sub ops f t out = .inl (t2, out2) → RD I' t2 out2 ∧ t ≤ t2 ∧ t2 ≤ N ∧ out2.length + t ≤ out.length + t2 := by
    intro f
    induction f with
    | zero =>
      intro i k t out I hi hk hK hR hl ht
      obtain ⟨k, rfl⟩ : ∃ q, k = q + 1 := ⟨k - 1, by omega⟩
      obtain rfl : i = 160 := by omega
      refine ⟨I, smx_rf, hBx k _, fun e h => (by cases h), fun t2 out2 h => ?_⟩
      cases h
      exact ⟨hR, Nat.le_refl _, ht, Nat.le_refl _⟩
    | succ f ih =>
      intro i k t out I hi hk hK hR hl ht
      obtain ⟨k, rfl⟩ : ∃ q, k = q + 1 := ⟨k - 1, by omega⟩
      rw [hBs k I t out i (by omega) hK hR ht]
      by_cases hc : ops (T.1 t) = true
      · have k1 := hops _ hc
        have hne : t ≠ N := fun e => by rw [e, hT.1] at k1; exact absurd k1 (by decide)
        have s0 : smx CR I (up2 I 39 2 (nI (t + 1))) := smx_up (Or.inl rfl)
        obtain ⟨I1, s1, f1, e1, e2⟩ := hs.2 _ (t + 1) out (TK_s hK s0) (RD_next hR) (by omega) (by omega)
        have eL : pL T sub ops (f + 1) t out = bR (sub (t + 1) out) fun t2 out2 => pL T sub ops f t2 (out2 ++ [sg (T.1 t)]) := if_pos hc
        have ew : -nI (T.1 t) = tr (nI (sg (T.1 t))) := by rcases isOp_l k1 with e | e | e | e | e | e | e <;> rw [e] <;> rfl
        rw [if_pos hc, R_ob, bind_some', f1, bind_some', R_ob, bind_some', eL]
        cases hs' : sub (t + 1) out with
        | inr e =>
          obtain ⟨z1, z2⟩ := e1 e hs'
          obtain ⟨I2, s2, e3, f2⟩ := x_putc (q := q) (I := I1) (x := -nI (T.1 t))
          obtain ⟨k, rfl⟩ : ∃ q, k = q + 1 := ⟨k - 1, by omega⟩
          rw [f2, bind_some', loopF k (i + 1) I2 (by omega) (fault_ne hsn (e3.trans z2))]
          exact ⟨I2, smx_tr (smx_tr s0 s1) s2, rfl, fun f h => (by cases h; exact ⟨z1, e3.trans z2⟩), fun t2 out2 h => by cases h⟩
        | inl r =>
          obtain ⟨t3, out3⟩ := r
          obtain ⟨z1, z2, z3, z4⟩ := e2 t3 out3 hs'
          obtain ⟨I2, s2, r2, f2⟩ := x_putcR (q := q) (c := sg (T.1 t)) (x := -nI (T.1 t)) z1 (by omega) ew
          have s02 := smx_tr (smx_tr s0 s1) s2
          obtain ⟨I3, s3, f3, g1, g2⟩ := ih (i + 1) k t3 (out3 ++ [sg (T.1 t)]) I2 (by omega) (by omega) (TK_s hK s02) r2 (by rw [List.length_append]; show out3.length + 1 < t3; omega) z3
          rw [f2, bind_some']
          refine ⟨I3, smx_tr s02 s3, f3, fun e h => g1 e h, fun t2 out2 h => ?_⟩
          obtain ⟨g3, g4, g5, g6⟩ := g2 t2 out2 h
          rw [List.length_append] at g6
          have g6 : out2.length + t3 ≤ out3.length + 1 + t2 := g6
          exact ⟨g3, by omega, g5, by omega⟩
      · have eL : pL T sub ops (f + 1) t out = .inl (t, out) := if_neg hc
        rw [if_neg hc, eL]
        refine ⟨I, smx_rf, rfl, fun e h => (by cases h), fun t2 out2 h => ?_⟩
        cases h
        exact ⟨hR, Nat.le_refl _, ht, Nat.le_refl _⟩
  obtain ⟨n, hn⟩ : ∃ n, fu = n + 1 := ⟨fu - 1, by omega⟩
  constructor
  · intro I h
    show F (mkX q I) = _
    rw [hF, R_ob, bind_some', hs.1 I h, bind_some']
    have := loopF n 0 I (by omega) h
    rw [← hn] at this
    exact this
  · intro I t out hK hR hl ht
    obtain ⟨I1, s1, f1, e1, e2⟩ := hs.2 I t out hK hR hl ht
    show ∃ I', _ ∧ F (mkX q I) = _ ∧ (∀ f, bR (sub t out) _ = .inr f → _) ∧ ∀ t2 out2, bR (sub t out) _ = .inl (t2, out2) → _
    rw [hF, R_ob, bind_some', f1, bind_some']
    cases hs' : sub t out with
    | inr e =>
      obtain ⟨z1, z2⟩ := e1 e hs'
      have := loopF n 0 I1 (by omega) (fault_ne hsn z2)
      rw [← hn] at this
      exact ⟨I1, s1, this, fun f h => (by cases h; exact ⟨z1, z2⟩), fun t2 out2 h => by cases h⟩
    | inl r =>
      obtain ⟨t3, out3⟩ := r
      obtain ⟨z1, z2, z3, z4⟩ := e2 t3 out3 hs'
      obtain ⟨I3, s3, f3, g1, g2⟩ := loop 160 0 fu t3 out3 I1 (by omega) (by omega) (TK_s hK s1) z1 (by omega) z3
      refine ⟨I3, smx_tr s1 s3, f3, fun e h => g1 e h, fun t2 out2 h => ?_⟩
      obtain ⟨g3, g4, g5, g6⟩ := g2 t2 out2 h
      exact ⟨g3, by omega, g5, by omega⟩
